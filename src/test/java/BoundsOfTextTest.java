/** The boundaries that the document names for the tape, the texts, their FAULTS and their laws: 'Terms', promises 1 to 5 and 42. */
public final class BoundsOfTextTest {
    private static final int MIN = Bounds.MIN;
    private static final int MAX = Bounds.MAX;
    private static final int BLANKS = 0x20202020;
    // 8192 * 8192 * 32 is one above the greatest of 32 bits: it wraps to the least
    private static final String LEAST = "8192*8192*32";
    private static final String GREATEST = "(8192*8192*32-1)";

    public static void main(String[] args) {
        whatIsRefusedIsSeen();
        aNewObject();
        aTextHas2000Bytes();
        tokensTheLongestThatCanBe();
        blanks();
        names();
        ints();
        signs();
        whatATextIs();
        whatALawIs();
        cells();
        ifNotTold();
        numbered();
        faultsByPlace();
        syntax();
        roomOfTokens();
        roomOfTells();
        roomOfBrackets();
        twice();
        wrong();
        aFaultChangesNothing();
        inPlaceOfTheOneAhead();
        of32Bits();
        roundedTowards0();
        divisionsBy0();
        varsOfLaws();
        feed();
        back();
        readAndPlace();
        count();
        Check.finish();
    }

    private static void fault(int promise, String text, int number, int place) {
        IceLogs logs = new IceLogs();
        Check.due(promise, "read of '" + text + "'", Check.tell(logs, text), number);
        Check.due(5, "place in '" + text + "'", logs.place(), place);
    }

    private static void good(String text) {
        fault(4, text, 0, -1);
    }

    private static void fault(String text, int number, int place) {
        fault(4, text, number, place);
    }

    /** The tests of refused calls would see each change. */
    private static void whatIsRefusedIsSeen() {
        Bounds.Call[] changes = {(l, a) -> l.feed(1, 2, 3, 4, 5), (l, a) -> l.back(15), (l, a) -> l.read(),
            (l, a) -> l.voyage(0, 0, 100, 3, 7, 0, 0, 1, 1), (l, a) -> l.noon(0, 5, 23, 3, 6, 4, 0), (l, a) -> l.picture(5, 3, 3, 9),
            (l, a) -> l.tails(5, 1), (l, a) -> l.annul(0), (l, a) -> l.lean(0, 1) ? 1 : 0, (l, a) -> l.lean(5, -2) ? 1 : 0,
            (l, a) -> l.hold(0) ? 1 : 0, (l, a) -> l.hold(1) ? 1 : 0, (l, a) -> l.again(1) ? 1 : 0};
        for (int i = 0; i < changes.length; i++) {
            IceLogs logs = Bounds.some();
            changes[i].of(logs);
            Check.due(0, "change " + i + " is seen", java.util.Arrays.equals(Bounds.seen(logs), Bounds.seen(Bounds.some())), false);
        }
        Check.due(0, "two of one make are alike", java.util.Arrays.equals(Bounds.seen(Bounds.full()), Bounds.seen(Bounds.full())), true);
    }

    private static void aNewObject() {
        IceLogs logs = new IceLogs();
        int[] counts = {0, 0, 0, 0, 0, 2, 1, 0, 0};
        for (int what = 0; what < 9; what++) {
            Check.due(1, "Nothing is told; no FACTS: count(" + what + ")", logs.count(what), counts[what]);
        }
        Check.due(1, "no FACTS", logs.fact(0, 0), -1);
        Check.due(1, "no FACTS to annul", logs.annul(0), -1);
        Check.due(1, "no WANTS", logs.go(0, 0, 11, 0, 0, 0, 0, 0), -1);
        Check.due(1, "no WANTS", logs.wanted(0, 0, 0, 0, 0), -1000000);
        Check.due(1, "no WANTS", logs.voyage(0, 0, 11, 0, 0, 0, 0, 1, 0), -1);
        for (int slot = 0; slot < 3; slot++) {
            Check.due(1, "nothing is held", logs.again(slot), false);
        }
        for (int ship = 0; ship < 6; ship++) {
            logs.noon(ship, 0, 0, ship, 6, Bounds.FAST, 0);
            Check.due(1, "no LEAN told", logs.span(ship, 0, 0, 0, logs.count(3), 0), 6);
        }
        Check.due(1, "nothing on the tape", logs.back(1), -1);
        Check.due(1, "no text read", logs.place(), -1);
        Check.due(1, "an empty text", logs.read(), 0);
    }

    // ---- 'A TEXT has 2,000 bytes at most.'

    private static void aTextHas2000Bytes() {
        good(" ".repeat(2000));
        good("edge=3;" + " ".repeat(1993));
        good(" ".repeat(1993) + "edge=3;");
        IceLogs last = new IceLogs();
        Check.tell(last, " ".repeat(1993) + "edge=3;");
        Check.due(4, "a law at the end of 2,000 bytes", last.edge(0, 0, 0, 0), 3);
        fault(" ".repeat(1999) + "#", 1, 1999);
        fault("edge=3" + " ".repeat(1994), 1, 2000);
        // 399 TOKENS and blanks, then the 400th at the last byte
        String long400 = "edge=1" + " +1".repeat(198);
        good(long400 + " ".repeat(2000 - long400.length() - 1) + ";");
        fault(long400 + " ".repeat(2000 - long400.length() - 1) + "+", 1, 2000);
    }

    // ---- 'TOKENS, the longest that can be, with blanks (9, 10, 13, 32) between or not'

    private static void tokensTheLongestThatCanBe() {
        fault("edge==5;", 1, 4);
        good("lead if 1<=1;");
        fault("lead if 1< =1;", 1, 11);
        fault("lead if 1= =1;", 1, 9);
        fault("lead if 1! =1;", 1, 9);
        fault("lead if 1===1;", 1, 11);
        fault("lead if 1<==1;", 1, 11);
        fault("lead if 1!==1;", 1, 11);
        fault("landx 1 1;", 1, 0);
        fault("land 11;", 1, 7);
        good("land 1 1;");
        fault("edge=1 1;", 1, 7);
        fault("edge=xy;", 1, 5);
        good("want xy=1;");
        fault("want x y=1;", 1, 5);
        fault("lead if notx==1;", 1, 8);
        fault("lead if x==1and2==2or 3==3;", 0, -1);
        fault("lead if x==1 andx==1;", 1, 13);
    }

    private static void blanks() {
        for (int sign : new int[] {9, 10, 13, 32}) {
            String blank = String.valueOf((char) sign);
            good("edge" + blank + "=" + blank + blank + "3" + blank + ";" + blank);
            good(blank);
        }
        for (int sign : new int[] {0, 1, 8, 11, 12, 14, 31, 33, 127, 128, 128 + 9, 128 + 10, 128 + 13, 128 + 32, 255}) {
            fault("edge=3" + (char) sign + ";", 1, 6);
            fault(String.valueOf((char) sign), 1, 0);
        }
    }

    // ---- 'NAMES (letters a .. z, 8 at most, none of the words in quotes), INTS (1 to 4 digits), SIGNS. A longer one, all else, is no TOKEN.'

    private static void names() {
        good("want a=1;want z=1;want az=1;want za=1;");
        fault("want `=1;", 1, 5);
        fault("want {=1;", 1, 5);
        fault("want A=1;", 1, 5);
        fault("want Z=1;", 1, 5);
        fault("want aA=1;", 1, 6);
        fault("want a1=1;", 1, 6);
        fault("want a_b=1;", 1, 6);
        fault("want =1;", 1, 5);
        good("want aaaaaaaa=1;");
        good("want zzzzzzzz=1;");
        fault("want aaaaaaaaa=1;", 1, 5);
        fault("want " + "z".repeat(1990) + "=1;", 1, 5);
        fault("want a" + "z".repeat(64) + "=1;", 1, 5);
        for (String word : ("land edge share whale lead if want sight move births or and not x y week year noise off whales ice "
            + "price").split(" ")) {
            fault("want " + word + "=1;", 1, 5);
            good("want a" + word + "=1;");
            good("want " + word + "a=1;");
            if (word.length() > 1 && !word.equals("whales")) {
                fault("want " + word.substring(1) + "=1;", word.equals("land") ? 1 : 0, word.equals("land") ? 5 : -1);
                good("want " + word.substring(0, word.length() - 1) + "q=1;");
            }
        }
        fault("want whale=1;", 1, 5);
        good("want e=1;want al=1;want nd=1;want k=1;");
    }

    private static void ints() {
        good("edge=0;");
        good("edge=9;");
        good("edge=9999;");
        good("edge=0000;");
        fault("edge=10000;", 1, 5);
        fault("edge=00000;", 1, 5);
        fault("edge=" + "1".repeat(1990) + ";", 1, 5);
        // beside the digits stand / (a SIGN) and :
        fault("edge=/;", 1, 5);
        fault("edge=:;", 1, 5);
        fault("edge=1:;", 1, 6);
        Check.due(6, "an INT is what its digits are", Check.with("edge=9999-9990;").edge(0, 0, 0, 0), 9);
        Check.due(6, "an INT is what its digits are", Check.with("edge=1234-1230;").edge(0, 0, 0, 0), 4);
        Check.due(6, "an INT is what its digits are", Check.with("edge=0010;").edge(0, 0, 0, 0), 10);
    }

    private static void signs() {
        good("edge=(1+2-3*4/5);");
        good("lead if 1==2;lead if 1!=2;lead if 1<2;lead if 1<=2;");
        for (String sign : new String[] {"!", ">", ">=", "=>", "=!", "&", "|", "[", "{", "%", ",", ".", "'", "\"", "^", "~", "@", "_"}) {
            fault("lead if 1" + sign + "2;", 1, 9);
        }
        fault("edge=1,", 1, 6);
        // SIGNS beside those that are: # $ % & ' and , and . and : and ?
        for (char sign : "#$%&',.:?@[\\]^_`{|}~\"".toCharArray()) {
            fault("edge=1" + sign, 1, 6);
        }
    }

    // ---- 'text: {TELL}. TELL: .. COND: ALL {'or' ALL}. ALL: LIT {'and' LIT}. LIT: .. E: .. PART: .. UNIT: .. VAR: ..'

    private static void whatATextIs() {
        good("");
        good("land 0 0;");
        fault(";", 1, 0);
        fault("land;", 1, 4);
        fault("land 1;", 1, 6);
        fault("land 1 1 1;", 1, 9);
        fault("land 1 1", 1, 8);
        fault("land (1) 1;", 1, 5);
        fault("land x 1;", 1, 5);
        for (String law : new String[] {"edge", "share", "whale"}) {
            int at = law.length();
            good(law + "=1;");
            fault(law + ";", 1, at);
            fault(law + "=;", 1, at + 1);
            fault(law + "=1", 1, at + 2);
            fault(law + "=1<2;", 1, at + 2);
            fault(law + "=a;", 1, at + 1);
            fault(law + " if 1<2;", 1, at + 1);
        }
        good("lead if 1<2;");
        fault("lead if;", 1, 7);
        fault("lead if 1;", 1, 9);
        fault("lead if 1 1;", 1, 10);
        fault("lead if 1 1<2;", 1, 10);
        fault("lead if x(5)<2;", 1, 9);
        fault("lead if x week<2;", 1, 10);
        fault("lead if 1<2", 1, 11);
        fault("lead=1;", 1, 4);
        good("want a=1;");
        fault("want a;", 1, 6);
        fault("want=1;", 1, 4);
        fault("want 1=1;", 1, 5);
        for (String number : new String[] {"sight", "move", "births"}) {
            int at = number.length();
            good(number + " 1;");
            fault(number + ";", 1, at);
            fault(number + "=1;", 1, at);
            fault(number + " 1", 1, at + 2);
            fault(number + " 1 2;", 1, at + 3);
            fault(number + " 1+1;", 1, at + 2);
        }
    }

    private static void whatALawIs() {
        for (String var : "x y week year noise off whales ice price".split(" ")) {
            good("edge=" + var + ";share=" + var + ";whale=" + var + ";lead if " + var + "==" + var + ";want a=" + var + ";");
        }
        fault("edge=-1;", 1, 5);
        fault("edge=+1;", 1, 5);
        fault("edge=1--1;", 1, 7);
        fault("edge=1+;", 1, 7);
        fault("edge=1*/1;", 1, 7);
        fault("edge=();", 1, 6);
        fault("edge=(1;", 1, 7);
        fault("edge=1);", 1, 6);
        fault("edge=not 1;", 1, 5);
        fault("lead if (1<2);", 1, 10);
        fault("lead if not (1<2);", 1, 14);
        good("lead if not (1)<2;");
        fault("lead if 1<2 or;", 1, 14);
        fault("lead if 1<2 and;", 1, 15);
        fault("lead if or 1<2;", 1, 8);
        fault("lead if 1<2 not 1<2;", 1, 12);
        fault("lead if 1 not <2;", 1, 10);
        fault("lead if 1<2<3;", 1, 11);
        lit("10-3-2==5", true);
        lit("10-3+2==9", true);
        lit("100/5/2==10", true);
        lit("100/5*2==40", true);
        lit("2+3*4==14", true);
        lit("2*3+4==10", true);
        lit("(2+3)*4==20", true);
        lit("20-4/2==18", true);
        // 'and' binds closer than 'or', 'not' closer than both
        lit("1==1 or 1==1 and 1==2", true);
        lit("1==2 and 1==1 or 1==1", true);
        lit("1==2 and 1==2 or 1==2", false);
        lit("1==2 or 1==1 and 1==1", true);
        lit("1==2 or 1==2", false);
        lit("1==1 and 1==1 and 1==2", false);
        lit("not 1==2 and 1==2", false);
        lit("not 1==1 or 1==1", true);
        lit("not not 1==1", true);
        lit("not not not 1==1", false);
        lit("1<2", true);
        lit("2<2", false);
        lit("3<2", false);
        lit("1<=2", true);
        lit("2<=2", true);
        lit("3<=2", false);
        lit("2==2", true);
        lit("2==3", false);
        lit("2!=2", false);
        lit("2!=3", true);
    }

    private static void lit(String condition, boolean holds) {
        Check.due(7, condition, Check.with("edge=12;lead if " + condition + ";").cell(0, 0, 0, 0, 0, 0) == 3, holds);
    }

    // ---- 'CELLS: x 0 .. 9, y 0 .. 11 (0 is north).'

    private static void cells() {
        Bounds.ranges(7, "CELLS: x 0 .. 9, y 0 .. 11", Bounds::some, (l, a) -> l.cell(a[0], a[1], 0, 0, 0, 0), -1, new int[] {3, 3},
            Bounds.to(0, 9), Bounds.to(0, 11));
        Check.due(7, "0 is north: ICE", Check.with("edge=1;").cell(0, 0, 0, 0, 0, 0), 1);
        Check.due(7, "0 is north: no ICE", Check.with("edge=1;").cell(0, 1, 0, 0, 0, 0), 0);
        IceLogs corners = Check.with("land 0 0;land 9 0;land 0 11;land 9 11;");
        Check.due(42, "corners", corners.count(0), 4);
        for (int x = 0; x < 10; x++) {
            for (int y = 0; y < 12; y++) {
                boolean corner = (x == 0 || x == 9) && (y == 0 || y == 11);
                Check.due(7, "LAND at " + x + ", " + y, corners.cell(x, y, 0, 0, 0, 0) == 2, corner);
            }
        }
    }

    // ---- 'EDGE, SHARE, WHALE: laws (5, 0 and 1 if not told; of several the last one told)', 'SIGHT 2, MOVE 1, BIRTHS 0 if not told'

    private static void ifNotTold() {
        IceLogs none = Check.with(" ");
        Check.due(6, "EDGE 5 if not told", none.edge(9, 15, 39, 9), 5);
        Check.due(7, "SHARE 0 if not told", none.cell(9, 0, 0, 0, 0, 1), 0);
        Check.due(7, "WHALE 1 if not told", none.cell(9, 0, 0, 0, 0, 2), 1);
        Check.due(42, "SIGHT 2 if not told", none.count(5), 2);
        Check.due(42, "MOVE 1 if not told", none.count(6), 1);
        Check.due(42, "BIRTHS 0 if not told", none.count(7), 0);
        IceLogs one = Check.with("share=3;");
        Check.due(6, "EDGE alone not told", one.edge(0, 0, 0, 0), 5);
        Check.due(7, "WHALE not told", one.cell(0, 0, 0, 0, 0, 2), 1);
        Check.due(7, "SHARE told", one.cell(0, 0, 0, 0, 0, 1), 3);
        // a lead's law alone is told: no other one is another for it
        for (String told : new String[] {"lead if x==3;", "want a=y/x;", "want a=0;lead if 1/x<0;"}) {
            IceLogs alone = Check.with(told);
            for (int x = 0; x < 10; x++) {
                Check.due(6, told + " EDGE not told", alone.edge(x, 0, 0, 0), 5);
                Check.due(7, told + " SHARE not told", alone.cell(x, 3, 0, 0, 0, 1), 0);
                Check.due(7, told + " WHALE not told", alone.cell(x, 3, 0, 0, 0, 2), 1);
            }
        }
        IceLogs last = Check.with("edge=1;share=2;whale=3;edge=4;share=5;whale=6;edge=7;share=8;whale=9;sight 5;sight 0;move 3;move 2;births 100;births 0;");
        Check.due(6, "the last EDGE told", last.edge(0, 0, 0, 0), 7);
        Check.due(7, "the last SHARE told", last.cell(0, 0, 0, 0, 0, 1), 8);
        Check.due(7, "the last WHALE told", last.cell(0, 0, 0, 0, 0, 2), 9);
        Check.due(42, "the last SIGHT told", last.count(5), 0);
        Check.due(42, "the last MOVE told", last.count(6), 2);
        Check.due(42, "the last BIRTHS told", last.count(7), 0);
    }

    // ---- 'LEADS are numbered, WANTS are numbered from 0 on as they stand'

    private static void numbered() {
        IceLogs logs = Check.with("want d=0-y;lead if x==0;want c=y;lead if x==1;want b=0-x;lead if x==2;want a=x;lead if x==3;");
        int[] there = {12 * 5 + 5, 12 * 5 + 11, 8, 12 * 9 + 8};
        for (int want = 0; want < 4; want++) {
            Check.due(8, "WANT " + want, logs.go(want, 5, 8, 0, 0, 0, 0, 7), want == 0 ? 65 : want == 1 ? 71 : there[want]);
            Check.due(7, "LEAD " + want, logs.cell(want, 0, 0, 0, 0, 0), 3);
        }
        Check.due(7, "no 5th LEAD", logs.cell(4, 0, 0, 0, 0, 0), 1);
        Check.due(8, "no 5th WANT", logs.go(4, 5, 8, 0, 0, 0, 0, 7), -1);
        Check.due(8, "no WANT -1", logs.go(-1, 5, 8, 0, 0, 0, 0, 7), -1);
        // names do not number them
        Check.due(8, "the first that stands", Check.with("want zz=y;want aa=x;").go(0, 5, 8, 0, 0, 0, 0, 1), 69);
    }

    // ---- 'FAULTS, the first by its place (a byte; the text's end: its length), of one place the least'

    private static void faultsByPlace() {
        fault("#", 1, 0);
        fault(" #", 1, 1);
        fault("edge", 1, 4);
        fault("edge  ", 1, 6);
        fault("edge=5;edge", 1, 11);
        fault("edge=5 # edge=", 1, 7);
        fault("edge=(((((((1))))))) #", 2, 11);
        fault("edge=# (((((((1)))))))", 1, 5);
        // a 7th ( that no text goes on with is SYNTAX, of one place the least
        fault("edge=((((((1(2", 1, 12);
        fault("edge=((((((", 1, 11);
        fault("edge=(((((((", 2, 11);
        // of a 401st TOKEN, too
        String of400 = "edge=1" + "+1".repeat(198) + ";";
        fault(of400 + "land", 2, 403);
        fault(of400 + "1", 1, 403);
        fault(of400 + "!", 1, 403);
        fault("edge=1" + "+1".repeat(198) + " 1", 1, 403);
        // TWICE and WRONG come behind all of SYNTAX and ROOM, and by place among themselves
        fault("move 0;#", 1, 7);
        fault("move 0;edge=(((((((1)))))));", 2, 18);
        fault("land 1 1;land 1 1;edge", 1, 22);
        fault("land 1 1;land 1 1;move 0;", 3, 16);
        fault("move 0;land 1 1;land 1 1;", 5, 5);
        fault("want a=1;want a=1;sight 6;", 3, 14);
        fault("sight 6;want a=1;want a=1;", 5, 6);
        fault("move 4;move 0;", 5, 5);
    }

    // ---- '1 SYNTAX: a TOKEN, or what is none, with which no text goes on.'

    private static void syntax() {
        fault("edge=5;5", 1, 7);
        fault("5", 1, 0);
        fault("edge edge=5;", 1, 5);
        fault("if", 1, 0);
        fault("not", 1, 0);
        fault("x", 1, 0);
        fault("a", 1, 0);
        fault("edge=abcdefghi;", 1, 5);
        fault("edge=5;abcdefghi", 1, 7);
        fault("edge=5;12345", 1, 7);
        // what is told wrongly behind a good TELL is a FAULT of the whole
        IceLogs logs = new IceLogs();
        Check.due(4, "a good TELL ahead of a FAULT", Check.tell(logs, "edge=9;#"), 1);
        Check.due(4, "is not told", logs.edge(0, 0, 0, 0), 5);
    }

    // ---- '2 ROOM: a 401st TOKEN; a 31st land, a 5th lead, a 5th want (at its first TOKEN); a 7th ( within one another (at it).'

    private static void roomOfTokens() {
        good("edge=1" + "+1".repeat(198) + ";");
        fault("edge=1" + "+1".repeat(198) + ";edge=1;", 2, 403);
        fault("edge=1" + "+1".repeat(198) + "+1;", 2, 403);
        fault("edge=1" + "+1".repeat(199), 2, 403);
        good("sight 1;".repeat(133));
        good("sight 1;".repeat(131) + "edge=1+1;");
        good("sight 1;".repeat(132) + "edge=1;");
        fault("sight 1;".repeat(133) + "sight 1;", 2, 133 * 8 + 6);
        fault("sight 1;".repeat(133) + "edge=1;", 2, 133 * 8 + 4);
        fault("sight 1;".repeat(132) + "edge=1;sight 1;", 2, 132 * 8 + 7);
        fault("sight 1;".repeat(133) + "sight;", 1, 133 * 8 + 5);
        good("sight 1;".repeat(132) + "edge=1; \n\r\t ");
        Check.due(6, "400 TOKENS are told to the last", Check.with("edge=0" + "+0".repeat(197) + "+9;").edge(0, 0, 0, 0), 9);
        Check.due(6, "all of them", Check.with("edge=100" + "-1".repeat(92) + ";").edge(0, 0, 0, 0), 8);
        Check.due(7, "a LIT of 400 TOKENS", Check.with("lead if 1==1" + " and 1==1".repeat(98) + ";").cell(0, 0, 0, 0, 0, 0), 3);
        Check.due(7, "a LIT of 400 TOKENS", Check.with("lead if 1==1" + " and 1==1".repeat(97) + " and 1==2;").cell(0, 0, 0, 0, 0, 0), 1);
        Check.due(7, "an even number of nots", Check.with("lead if " + "not ".repeat(394) + "1==1;").cell(0, 0, 0, 0, 0, 0), 3);
        Check.due(7, "an odd number of nots", Check.with("lead if " + "not ".repeat(393) + "1==1;").cell(0, 0, 0, 0, 0, 0), 1);
        fault("lead if " + "not ".repeat(395) + "1==1;", 2, 8 + 395 * 4 + 4);
        fault("lead if " + "not ".repeat(397) + "1==1;", 2, 8 + 397 * 4 + 1);
        fault("lead if " + "not ".repeat(398) + "1==1;", 2, 8 + 398 * 4);
        fault("lead if " + "not ".repeat(399), 2, 8 + 398 * 4);
    }

    private static String lands(int many) {
        StringBuilder text = new StringBuilder();
        for (int i = 0; i < many; i++) {
            text.append("land ").append(i % 10).append(' ').append(i / 10).append(';');
        }
        return text.toString();
    }

    private static void roomOfTells() {
        good(lands(30));
        Check.due(42, "30 lands", Check.with(lands(30)).count(0), 30);
        fault(lands(31), 2, 270);
        fault(lands(30) + "land", 2, 270);
        fault(lands(30) + " land #", 2, 271);
        // LAND told TWICE, or WRONG, is one of the 31 too: ROOM comes first
        fault(lands(30) + "land 0 0;", 2, 270);
        fault("land 99 99;" + lands(30), 2, 11 + 29 * 9);
        fault("land 0 0;" + lands(29), 3, 16);
        good("lead if 1<2;".repeat(4));
        fault("lead if 1<2;".repeat(5), 2, 48);
        fault("lead if 1<2;".repeat(4) + "lead", 2, 48);
        fault("lead if 1<2;".repeat(4) + "  lead if #", 2, 50);
        good("want a=1;want b=1;want c=1;want d=1;");
        fault("want a=1;want b=1;want c=1;want d=1;want e=1;", 2, 36);
        fault("want a=1;want b=1;want c=1;want d=1;want", 2, 36);
        fault("want a=1;want a=1;want a=1;want a=1;", 3, 14);
        fault("want a=1;want a=1;want a=1;want a=1; want a=1;", 2, 37);
        // all there can be at once
        good(lands(30) + "lead if 1<2;".repeat(4) + "want a=1;want b=1;want c=1;want d=1;edge=1;share=1;whale=1;sight 1;move 1;births 1;");
        // EDGE, SHARE, WHALE, SIGHT, MOVE, BIRTHS are told as often as one likes
        good("edge=1;".repeat(99));
        good("whale=1;".repeat(99));
        good("share=1;".repeat(99));
        good("move 1;".repeat(133));
        good("births 1;".repeat(133));
    }

    private static void roomOfBrackets() {
        good("edge=((((((1))))));");
        fault("edge=(((((((1)))))));", 2, 11);
        fault("edge=((((((1+(2)))))));", 2, 13);
        good("edge=((((((1))+((2))+((3))))));");
        fault("edge=((((((1))+((2))+(((3))))))));", 2, 23);
        good("edge=((((((1))))))*((((((1))))));");
        fault("edge=1+((((((1))))))*(((((((1)))))));", 2, 27);
        good("lead if ((((((1))))))<((((((2))))));");
        fault("lead if (((((((1)))))))<2;", 2, 14);
        fault("lead if 1<(((((((2)))))));", 2, 16);
        fault("lead if 1<2 or 1<(((((((2)))))));", 2, 23);
        fault("want a=(((((((1)))))));", 2, 13);
        fault("share=(((((((1)))))));", 2, 12);
        fault("whale=" + "(".repeat(300), 2, 12);
        Check.due(6, "six of them tell", Check.with("edge=((((((7-1)-1)-1)-1)-1)-1);").edge(0, 0, 0, 0), 1);
        Check.due(6, "six of them tell", Check.with("edge=9-(8-(7-(6-(5-(4-(3-1))))));").edge(0, 0, 0, 0), 9 - (8 - (7 - (6 - (5 - (4 - (3 - 1)))))));
    }

    // ---- '3 TWICE: a NAME told already; a LAND cell told already (at its second INT).'

    private static void twice() {
        fault("want a=1;want a=1;", 3, 14);
        good("want a=1;want aa=1;want b=1;want ab=1;");
        fault("want abcdefgh=1;want abcdefgh=1;", 3, 21);
        good("want abcdefgh=1;want abcdefgi=1;want bbcdefgh=1;want abcdefg=1;");
        fault("want a=1;want b=1;want c=1;want a=1;", 3, 32);
        fault("want a=1;want b=1;want c=1;want c=1;", 3, 32);
        fault("want a=1;want b=1;want b=1;want a=1;", 3, 23);
        fault("land 0 0;land 0 0;", 3, 16);
        fault("land 9 11;land 9 11;", 3, 17);
        fault("land 9 11;land 0009   0011;", 3, 22);
        good("land 0 1;land 1 0;land 0 11;land 1 1;");
        fault("land 1 1;land 2 2;land 3 3;land 2 2;", 3, 34);
        // told in a text ahead is not told already
        IceLogs logs = Check.with("land 1 1;want a=1;");
        Check.due(4, "told in the text ahead", Check.tell(logs, "land 1 1;want a=2;"), 0);
    }

    // ---- '5 WRONG (at the INT): x above 9, y above 11, SIGHT above 5, MOVE 0 or above 3, BIRTHS above 100.'

    private static void wrong() {
        good("land 0 0;land 9 11;");
        fault("land 10 0;", 5, 5);
        fault("land 0 12;", 5, 7);
        fault("land 9999 0;", 5, 5);
        fault("land 0 9999;", 5, 7);
        fault("land 10 12;", 5, 5);
        fault("land 11 9;", 5, 5);
        good("sight 0;");
        good("sight 5;");
        fault("sight 6;", 5, 6);
        fault("sight 9999;", 5, 6);
        fault("move 0;", 5, 5);
        fault("move 0000;", 5, 5);
        good("move 1;");
        good("move 3;");
        fault("move 4;", 5, 5);
        good("births 0;");
        good("births 100;");
        fault("births 101;", 5, 7);
        fault("births 9999;", 5, 7);
        // also where another one comes later
        fault("sight 6;sight 5;", 5, 6);
        fault("sight 5;sight 6;", 5, 14);
        // what WRONG cells tell TWICE is WRONG where it stands first
        fault("land 10 0;land 10 0;", 5, 5);
        fault("land 0 12;land 0 12;", 5, 7);
        // no other cell is told by it: x 1, y 0 is not 12 further on
        fault("land 1 0;land 0 12;", 5, 16);
    }

    // ---- 'A text with a FAULT changes nothing; else it is in place of the one ahead. (FACTS, LEANS told, SLOTS stay.)'

    private static void aFaultChangesNothing() {
        String[] faults = {"#", "edge=1;share=1;whale=1;land 0 0;lead if 1<2;want q=1;sight 1;move 3;births 1;#",
            "edge=1;share=1;whale=1;land 0 0;lead if 1<2;want q=1;sight 1;move 3;births 1;want r=(((((((1)))))));",
            "edge=1;share=1;whale=1;land 0 0;lead if 1<2;want q=1;sight 1;move 3;births 1;want q=1;",
            "edge=1;share=1;whale=1;land 0 0;lead if 1<2;want q=1;sight 1;move 3;births 1;move 4;",
            "edge=1;share=1;whale=1;land 0 0;lead if 1<2;want q=1;sight 1;move 3;births 1;move 3;land 0 0;"};
        int[] numbers = {1, 1, 2, 3, 5, 3};
        for (int i = 0; i < faults.length; i++) {
            IceLogs logs = Bounds.some();
            logs.back(20);
            Check.due(4, "a FAULT", Check.tell(logs, faults[i]), numbers[i]);
            IceLogs other = Bounds.some();
            other.back(20);
            Check.tell(other, "x");
            Check.due(4, "the tape is empty then", logs.count(4), 0);
            // the place alone is another
            logs.read();
            other.read();
            logs = afterFault(faults[i]);
            Check.due(4, "FAULT " + numbers[i] + " changes nothing", java.util.Arrays.equals(withoutPlace(Bounds.seen(logs)),
                withoutPlace(Bounds.seen(afterFault("x")))), true);
        }
    }

    private static IceLogs afterFault(String text) {
        IceLogs logs = Bounds.some();
        logs.back(20);
        Check.tell(logs, text);
        return logs;
    }

    private static int[] withoutPlace(int[] seen) {
        seen[9] = 0;
        return seen;
    }

    private static void inPlaceOfTheOneAhead() {
        IceLogs logs = Bounds.some();
        logs.back(20);
        Check.due(4, "an empty text", logs.read(), 0);
        int[] counts = {0, 0, 0, 7, 0, 2, 1, 0, 2};
        for (int what = 0; what < 9; what++) {
            Check.due(4, "an empty text is in place of the one ahead: count(" + what + ")", logs.count(what), counts[what]);
        }
        Check.due(4, "EDGE", logs.edge(9, 0, 0, 9), 5);
        Check.due(4, "SHARE", logs.cell(9, 9, 0, 0, 0, 1), 0);
        Check.due(4, "WHALES", logs.cell(9, 9, 0, 0, 0, 2), 1);
        Check.due(4, "LAND", logs.cell(4, 4, 0, 0, 0, 0), 1);
        Check.due(4, "LEADS", logs.cell(2, 0, 0, 0, 0, 0), 1);
        Check.due(4, "WANTS", logs.go(0, 3, 8, 0, 0, 0, 0, 1), -1);
        Check.due(4, "LEANS told stay", logs.span(3, 3, 5, 0, 2, 0), 4);
        Check.due(4, "SLOTS stay", logs.again(1), true);
        Check.due(4, "with their FACTS", logs.count(3), 3);
        // text by text, each as long as can be: the last one alone is there
        IceLogs many = new IceLogs();
        for (int i = 0; i < 100; i++) {
            String text = "edge=" + i % 13 + "+0".repeat(180) + ";share=" + i % 11 + ";lead if x==" + i % 10 + ";want a=0-(x-" + i % 10 + ")*(x-" + i % 10
                + ");";
            Check.due(4, "text " + i, Check.tell(many, text), 0);
            Check.due(6, "text " + i, many.edge(0, 0, 0, 0), i % 13);
            Check.due(7, "text " + i, many.cell(0, 0, 0, 0, 0, 1), i % 11);
            Check.due(42, "text " + i, many.count(1), 1);
            if (i % 13 < 12) {
                Check.due(8, "text " + i, many.go(0, i % 10, 11, 0, 0, 0, 0, 7), 12 * (i % 10) + 11);
            }
        }
        // what is seen of FACTS is by the text that is there: SIGHT, MOVE, LAND
        IceLogs tracks = new IceLogs();
        tracks.noon(0, 0, 0, 3, 5, Bounds.CLEAR, 0);
        tracks.noon(0, 0, 1, 3, 7, Bounds.CLEAR, 0);
        tracks.noon(0, 0, 2, 3, 5, Bounds.CLEAR, 0);
        Check.due(4, "by MOVE 1", tracks.state(1, 3), 1);
        Check.tell(tracks, "move 2;sight 0;");
        Check.due(4, "by MOVE 2", tracks.state(1, 3), 0);
        Check.due(4, "by SIGHT 0", tracks.span(3, 0, 0, 0, 3, 1), 4);
        Check.tell(tracks, "move 2;land 3 7;");
        Check.due(4, "by LAND", tracks.state(1, 3), 1);
    }

    // ---- 'VARS, of 32 bits that wrap (/ rounded towards 0; ..)'

    private static void of32Bits() {
        lit(LEAST + "<0", true);
        lit("0<" + GREATEST, true);
        lit(GREATEST + "+1==" + LEAST, true);
        lit(LEAST + "-1==" + GREATEST, true);
        lit(LEAST + "*(0-1)==" + LEAST, true);
        lit(LEAST + "/(0-1)==" + LEAST, true);
        lit("0-" + LEAST + "==" + LEAST, true);
        lit("8192*8192*64==0", true);
        lit("8192*8192*16<0", false);
        lit(GREATEST + "*2==0-2", true);
        lit(GREATEST + "*" + GREATEST + "==1", true);
        lit("9999*9999*9999==0-(9999*(9999*10+2755)+2714)", true);
        lit(LEAST + "<" + GREATEST, true);
        lit(GREATEST + "<" + LEAST, false);
        lit(LEAST + "<=" + LEAST, true);
        edge(LEAST, 0);
        edge(LEAST + "-1", 12);
        edge(GREATEST, 12);
        edge(GREATEST + "+1", 0);
        edge("8192*8192*64+7", 7);
        Check.due(7, "SHARE wraps, and is held", Check.with("share=" + LEAST + "-1;").cell(0, 0, 0, 0, 0, 1), 10);
        Check.due(7, "SHARE wraps, and is held", Check.with("share=" + LEAST + ";").cell(0, 0, 0, 0, 0, 1), 0);
        Check.due(7, "WHALES wrap, and are held", Check.with("whale=" + LEAST + "-1;").cell(0, 0, 0, 0, 0, 2), 99);
        Check.due(7, "WHALES wrap, and are held", Check.with("whale=" + LEAST + ";").cell(0, 0, 0, 0, 0, 2), 0);
        // of a WANT the greatest of 32 bits is most, the least is least: at x 6 the sum has wrapped
        Check.due(8, "a WANT that wraps", Check.with("edge=0;want a=" + GREATEST + "-5+x;").go(0, 2, 5, 0, 0, 0, 0, 7), 12 * 5 + 5);
        Check.due(8, "a WANT that wraps", Check.with("edge=0;want a=" + LEAST + "+x-1;").go(0, 1, 5, 0, 0, 0, 0, 7), 5);
    }

    private static void edge(String law, int want) {
        Check.due(6, "edge=" + law, Check.with("edge=" + law + ";").edge(0, 0, 0, 0), want);
    }

    private static void roundedTowards0() {
        lit("7/2==3", true);
        lit("(0-7)/2==0-3", true);
        lit("7/(0-2)==0-3", true);
        lit("(0-7)/(0-2)==3", true);
        lit("1/2==0", true);
        lit("(0-1)/2==0", true);
        lit("1/(0-2)==0", true);
        lit("0/5==0", true);
        lit("0/(0-5)==0", true);
        lit("6/6==1", true);
        lit("5/6==0", true);
        lit("(0-6)/6==0-1", true);
        lit("(0-5)/6==0", true);
        lit(LEAST + "/2<0-8192*8192*15", true);
        lit(LEAST + "/(" + LEAST + ")==1", true);
        lit(GREATEST + "/(" + LEAST + ")==0", true);
        lit(LEAST + "/" + GREATEST + "==0-1", true);
    }

    // ---- 'a LIT with a division by 0 does not hold, its not does; an E that divides by 0 anywhere in it is 0 as a whole'

    private static void divisionsBy0() {
        for (String sign : new String[] {"==", "!=", "<", "<="}) {
            lit("1/0" + sign + "1/0", false);
            lit("not 1/0" + sign + "1/0", true);
            lit("1/0" + sign + "5", false);
            lit("not 1/0" + sign + "5", true);
            lit("5" + sign + "1/0", false);
            lit("not 5" + sign + "1/0", true);
            lit("0" + sign + "0/0", false);
            lit("not not 0" + sign + "0/0", false);
            lit("not not not 0" + sign + "0/0", true);
        }
        lit("0-1<0*(1/0)", false);
        lit("0-1<(((3/(2-2))))", false);
        lit("1/0==1 or 1==1", true);
        lit("1==1 or 1/0==1", true);
        lit("1==1 and 1/0==1", false);
        lit("not 1/0==1 and 1==1", true);
        lit("1/0==1 and 1==1 or 1==1", true);
        lit("1==1 and not 1/0==1", true);
        edge("1/0", 0);
        edge("0/0", 0);
        edge("7+1/0", 0);
        edge("1/0+7", 0);
        edge("7+0*(1/0)", 0);
        edge("(1/0)*0+7", 0);
        edge("7-(((0/(1-1))))", 0);
        edge("7+1/(1/2)", 0);
        edge("7+1/1", 8);
        edge(LEAST + "/(8192*8192*64)+7", 0);
        // cell by cell: where it is not 0 it divides
        IceLogs logs = Check.with("edge=7+1/(x-3);share=7+1/(y-3);whale=50/off+50;want a=9-1/(y-8);");
        Check.due(6, "where it divides by 0", logs.edge(3, 0, 0, 0), 0);
        Check.due(6, "where not", logs.edge(4, 0, 0, 0), 8);
        Check.due(6, "where not", logs.edge(2, 0, 0, 0), 6);
        Check.due(7, "SHARE where it divides by 0", logs.cell(0, 3, 0, 0, 0, 1), 0);
        Check.due(7, "SHARE where not", logs.cell(0, 4, 0, 0, 0, 1), 8);
        Check.due(7, "WHALES where it divides by 0", logs.cell(0, 7, 0, 0, 0, 2), 0);
        Check.due(7, "WHALES where not", logs.cell(0, 8, 0, 0, 0, 2), 99);
        Check.due(7, "WHALES where not", logs.cell(0, 6, 0, 0, 0, 2), 0);
        // the WANT says 9 of y 10, 8 of y 9, 0 of y 8, 10 of y 7
        Check.due(8, "a WANT that divides by 0 says 0", logs.go(0, 5, 8, 0, 0, 0, 0, 1), 12 * 5 + 7);
        Check.due(8, "a WANT that divides by 0 says 0", Check.with("edge=0;want a=1/(y-8)-1;").go(0, 5, 9, 0, 0, 0, 0, 1), 12 * 5 + 9);
        Check.due(8, "0 is more than less than 0", Check.with("edge=0;want a=1/(y-8)-2;").go(0, 5, 9, 0, 0, 0, 0, 1), 12 * 5 + 8);
    }

    // ---- 'in EDGE: x, week, year, noise; in SHARE, WHALE, a lead: these, y, and off: ..; in a WANT: these, and whales, ice, price; all others 0.'

    private static void varsOfLaws() {
        String[] vars = {"x", "week", "year", "noise", "y", "off", "whales", "ice", "price"};
        int[] values = {3, 2, 7, 4, 6, 1, 0, 0, 0};
        for (int i = 0; i < vars.length; i++) {
            IceLogs edge = Check.with("edge=5+" + vars[i] + ";");
            Check.due(6, vars[i] + " in EDGE", edge.edge(3, 2, 7, 4), i < 4 ? 5 + values[i] : 5);
            IceLogs share = Check.with("share=2+" + vars[i] + ";whale=" + vars[i] + ";edge=12;lead if " + vars[i] + "==" + values[i] + ";");
            int off = i == 5 ? -6 : values[i];
            Check.due(7, vars[i] + " in SHARE", share.cell(3, 6, 2, 7, 4, 1), Math.max(0, 2 + off));
            Check.due(7, vars[i] + " in WHALE", share.cell(3, 6, 2, 7, 4, 2), Math.max(0, off));
            Check.due(7, vars[i] + " in a lead", share.cell(3, 6, 2, 7, 4, 0) == 3, i != 5);
        }
        lit("off==0-12", true);
        // in a WANT all of them: it stays where its cell alone has what is asked
        String[] own = {"x-3", "y-6", "week-2", "year-7", "noise-4", "off-1", "whales-6", "price-9", "ice-0"};
        for (String var : own) {
            IceLogs logs = Check.with("whale=y;want a=y-100*(" + var + ")*(" + var + ");");
            int want = var.equals("x-3") || var.equals("week-2") || var.equals("year-7") || var.equals("noise-4") || var.equals("price-9")
                || var.equals("ice-0") ? 12 * 3 + 7 : 12 * 3 + 6;
            Check.due(8, var + " in a WANT", logs.go(0, 3, 6, 2, 7, 4, 9, 1), want);
        }
        // what one WANT was asked of stays in no law: EDGE has no price, SHARE no ice
        IceLogs logs = Check.with("edge=5+price+ice+whales+off+y;share=3+price+ice+whales;whale=4+price+ice+whales;lead if price!=0 or ice!=0 or whales!=0;want a=0-y;");
        Check.due(8, "a WANT", logs.go(0, 3, 5, 2, 7, 4, 99, 1), 12 * 3 + 5);
        Check.due(6, "EDGE behind a WANT", logs.edge(3, 2, 7, 4), 5);
        Check.due(7, "SHARE behind a WANT", logs.cell(3, 4, 2, 7, 4, 1), 3);
        Check.due(7, "WHALES behind a WANT", logs.cell(3, 4, 2, 7, 4, 2), 4);
        Check.due(7, "a lead behind a WANT", logs.cell(3, 4, 2, 7, 4, 0), 1);
    }

    // ---- Promises 2 to 5 and 42

    private static void feed() {
        IceLogs logs = new IceLogs();
        // the highest byte of a first: e d g e = 7 ;
        Check.due(2, "Twenty bytes come", logs.feed(0x65646765, 0x3d373b20, BLANKS, BLANKS, BLANKS), 20);
        Check.due(4, "read", logs.read(), 0);
        Check.due(6, "edge", logs.edge(0, 0, 0, 0), 7);
        Check.due(2, "a, b, c, d, e in this order", logs.feed(0x65646765, 0x20202020, 0x3d202020, 0x20202039, 0x3b202020), 20);
        Check.due(4, "read", logs.read(), 0);
        Check.due(6, "edge", logs.edge(0, 0, 0, 0), 9);
        // bytes of which the highest bit is set
        logs.feed(BLANKS, 0x80202020, BLANKS, BLANKS, BLANKS);
        Check.due(4, "byte 128", logs.read(), 1);
        Check.due(5, "byte 128", logs.place(), 4);
        logs.feed(MIN, MAX, -1, 0, 1);
        Check.due(4, "read of wild bytes", logs.read(), 1);
        Check.due(5, "read of wild bytes", logs.place(), 0);
        for (int i = 1; i <= 100; i++) {
            Check.due(2, "behind the tape", logs.feed(BLANKS, BLANKS, BLANKS, BLANKS, BLANKS), 20 * i);
        }
        Check.due(2, "more than 2,000", logs.feed(BLANKS, BLANKS, BLANKS, BLANKS, BLANKS), -1);
        Check.due(42, "nothing came", logs.count(4), 2000);
        Check.due(3, "back(1)", logs.back(1), 1999);
        Check.due(2, "2,019 would be more", logs.feed(-1, -1, -1, -1, -1), -1);
        Check.due(42, "nothing came", logs.count(4), 1999);
        Check.due(3, "back(18)", logs.back(18), 1981);
        Check.due(2, "2,001 would be more", logs.feed(-1, -1, -1, -1, -1), -1);
        Check.due(42, "nothing came", logs.count(4), 1981);
        Check.due(3, "back(1)", logs.back(1), 1980);
        Check.due(2, "2,000 are no more", logs.feed(0x65646765, 0x3d353b20, BLANKS, BLANKS, 0x20202023), 2000);
        Check.due(4, "what came last is read", logs.read(), 1);
        Check.due(5, "at the last byte", logs.place(), 1999);
        // bytes that were taken back are not there any more
        logs.feed(0x65646765, 0x3d343b20, 0x65646765, 0x3d333b20, 0x65646765);
        Check.due(3, "back(12)", logs.back(12), 8);
        Check.due(2, "more come behind what is left", logs.feed(0x6d6f7665, 0x20333b20, BLANKS, BLANKS, BLANKS), 28);
        Check.due(4, "read", logs.read(), 0);
        Check.due(6, "edge", logs.edge(0, 0, 0, 0), 4);
        Check.due(42, "MOVE", logs.count(6), 3);
        Bounds.refused(2, "NONE, and nothing comes", BoundsOfTextTest::fullTape, (l, a) -> l.feed(a[0], a[1], a[2], a[3], a[4]), -1,
            0x6d6f7665, 0x20333b20, BLANKS, BLANKS, BLANKS);
    }

    private static IceLogs fullTape() {
        IceLogs logs = Bounds.some();
        logs.back(19);
        logs.back(1);
        Check.feed(logs, " ".repeat(1990) + "edge = 8;");
        return logs;
    }

    private static void back() {
        IceLogs none = new IceLogs();
        Check.due(3, "back(0) of none", none.back(0), 0);
        Check.due(3, "it has not so many", none.back(1), -1);
        Check.due(3, "n is below 0", none.back(-1), -1);
        IceLogs logs = Bounds.some();
        Check.due(3, "back(0)", logs.back(0), 20);
        Check.due(3, "back(19)", logs.back(19), 1);
        Check.due(3, "it has not so many", logs.back(2), -1);
        Check.due(3, "back(1): all", logs.back(1), 0);
        Check.due(3, "it has not so many", logs.back(1), -1);
        for (int n : new int[] {21, 22, 2000, 2001, -1, -20, MIN, MIN + 20, MAX, MAX - 19}) {
            Bounds.refused(3, "it has not so many, or n is below 0", Bounds::some, (l, a) -> l.back(a[0]), -1, n);
        }
    }

    private static void readAndPlace() {
        IceLogs logs = new IceLogs();
        Check.due(5, "NONE ahead of the first read()", logs.place(), -1);
        Check.due(4, "a FAULT", Check.tell(logs, "edge=1;  sight 6;"), 5);
        Check.due(5, "its byte", logs.place(), 15);
        Check.due(42, "The tape is empty then", logs.count(4), 0);
        Check.feed(logs, "edge=");
        Check.due(5, "of the latest read(), not of the tape", logs.place(), 15);
        logs.tails(0, 1);
        logs.hold(0);
        logs.again(0);
        Check.due(5, "no other call changes it", logs.place(), 15);
        Check.due(4, "read", logs.read(), 1);
        Check.due(5, "of the latest read()", logs.place(), 5);
        Check.due(4, "an empty tape is a text", logs.read(), 0);
        Check.due(5, "NONE without", logs.place(), -1);
        Check.due(4, "a FAULT at byte 0", Check.tell(logs, "#"), 1);
        Check.due(5, "byte 0", logs.place(), 0);
        Check.due(4, "a good text", Check.tell(logs, "edge=3;"), 0);
        Check.due(5, "NONE without", logs.place(), -1);
        Check.due(42, "The tape is empty then", logs.count(4), 0);
        Check.due(4, "what was read is not read again", logs.read(), 0);
        Check.due(6, "an empty text in its place", logs.edge(0, 0, 0, 0), 5);
    }

    private static void count() {
        Bounds.ranges(42, "NONE for others", Bounds::some, (l, a) -> l.count(a[0]), -1, new int[] {0}, Bounds.to(0, 8));
        int[] counts = {1, 1, 2, 7, 20, 3, 2, 7, 2};
        for (int what = 0; what < 9; what++) {
            Check.due(42, "count(" + what + ")", Bounds.some().count(what), counts[what]);
        }
        IceLogs all = Check.with(lands(30) + "lead if 1<2;".repeat(4) + "want a=1;want b=1;want c=1;want d=1;sight 5;move 3;births 100;");
        for (int i = 0; i < 120; i++) {
            all.tails(0, 0);
        }
        for (int slot = 0; slot < 3; slot++) {
            all.hold(slot);
        }
        Check.feed(all, " ".repeat(2000));
        int[] most = {30, 4, 4, 120, 2000, 5, 3, 100, 3};
        for (int what = 0; what < 9; what++) {
            Check.due(42, "everything full: count(" + what + ")", all.count(what), most[what]);
        }
    }
}
