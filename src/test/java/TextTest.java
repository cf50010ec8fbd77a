/** Promises 1 to 5 and 42: the tape, texts and their FAULTS, what is counted. */
public final class TextTest {
    public static void main(String[] args) {
        aNewObject();
        feeding();
        goingBack();
        faultsOfSyntax();
        faultsOfRoom();
        faultsOfMeaning();
        whichFaultIsFirst();
        whatAFaultChanges();
        whatATextChanges();
        counting();
        Check.finish();
    }

    private static void aNewObject() {
        IceLogs logs = new IceLogs();
        int[] counts = {0, 0, 0, 0, 0, 2, 1, 0, 0};
        for (int i = 0; i < counts.length; i++) {
            Check.due(1, "count(" + i + ")", logs.count(i), counts[i]);
        }
        Check.due(1, "edge", logs.edge(9, 15, 39, 9), 5);
        Check.due(1, "share", logs.cell(9, 4, 15, 39, 9, 1), 0);
        Check.due(1, "whales", logs.cell(9, 4, 15, 39, 9, 2), 1);
        Check.due(1, "ice", logs.cell(9, 4, 15, 39, 9, 0), 1);
        Check.due(1, "water", logs.cell(9, 5, 15, 39, 9, 0), 0);
        Check.due(1, "place", logs.place(), -1);
        Check.due(1, "no facts", logs.fact(0, 0), -1);
        Check.due(1, "again(0)", logs.again(0), false);
        Check.due(1, "read() of an empty tape", logs.read(), 0);
        Check.due(1, "NONE", IceLogs.NONE, -1);
    }

    private static void feeding() {
        IceLogs logs = new IceLogs();
        // 'move', ' 3;s', 'ight', ' 4; ', blanks: the highest byte of a word comes first
        Check.due(2, "feed", logs.feed(0x6d6f7665, 0x20333b73, 0x69676874, 0x20343b20, 0x20202020), 20);
        Check.due(2, "read", logs.read(), 0);
        Check.due(2, "MOVE", logs.count(6), 3);
        Check.due(2, "SIGHT", logs.count(5), 4);
        for (int i = 1; i <= 100; i++) {
            Check.due(2, "feed " + i, logs.feed(0x20202020, 0x20202020, 0x20202020, 0x20202020, 0x20202020), 20 * i);
        }
        Check.due(2, "feed above 2,000", logs.feed(0, 0, 0, 0, 0), -1);
        Check.due(2, "nothing came", logs.count(4), 2000);
        Check.due(2, "back", logs.back(19), 1981);
        Check.due(2, "feed to 2,001", logs.feed(0, 0, 0, 0, 0), -1);
        Check.due(2, "back", logs.back(1), 1980);
        Check.due(2, "feed to 2,000", logs.feed(0x20202020, 0x20202020, 0x20202020, 0x20202020, 0x20202020), 2000);
        Check.due(4, "read of blanks", logs.read(), 0);
        Check.due(2, "feed of bytes above 127", logs.feed(-1, -1, -1, -1, -1), 20);
        Check.due(4, "read of them", logs.read(), 1);
        Check.due(5, "place", logs.place(), 0);
    }

    private static void goingBack() {
        IceLogs logs = new IceLogs();
        Check.due(3, "back(0) of none", logs.back(0), 0);
        Check.due(3, "back(1) of none", logs.back(1), -1);
        Check.feed(logs, "edge=3;edge=4;move 2;");
        Check.due(3, "back(-1)", logs.back(-1), -1);
        Check.due(3, "back(22)", logs.back(22), -1);
        Check.due(3, "back below all", logs.back(Integer.MIN_VALUE), -1);
        Check.due(3, "nothing went", logs.count(4), 21);
        Check.due(3, "back(0)", logs.back(0), 21);
        Check.due(3, "back(14)", logs.back(14), 7);
        Check.due(4, "read", logs.read(), 0);
        Check.due(3, "what was left was read", logs.edge(0, 0, 0, 0), 3);
        Check.due(3, "MOVE was not", logs.count(6), 1);
        Check.feed(logs, "edge=3;");
        Check.due(3, "back(7)", logs.back(7), 0);
    }

    private static void fault(String text, int number, int place) {
        IceLogs logs = new IceLogs();
        Check.due(4, "read of '" + text + "'", Check.tell(logs, text), number);
        Check.due(5, "place in '" + text + "'", logs.place(), place);
    }

    private static void faultsOfSyntax() {
        fault("", 0, -1);
        fault(" \t\r\n", 0, -1);
        fault("edge\t=\n5\r ;", 0, -1);
        fault("land1 2;", 0, -1);
        fault("edge=(x+y*2-week/3)*(year-noise)+off*(whales+ice)*price;", 0, -1);
        fault("want abcdefgh=1;", 0, -1);
        fault("want lands=1;want xy=2;", 0, -1);
        fault("want z=1;want az=2;want zzzzzzzz=3;want aaaaaaaa=4;", 0, -1);
        fault("lead if not not x<=1 and y!=2 or week==3 and 1<2;", 0, -1);
        fault("edge=0007;", 0, -1);
        fault("edge=5", 1, 6);
        fault("edge=5 \n", 1, 8);
        fault("edge", 1, 4);
        fault("edge 5;", 1, 5);
        fault("edge==5;", 1, 4);
        fault("edge=5;;", 1, 7);
        fault("edge=;", 1, 5);
        fault("edge=-5;", 1, 5);
        fault("edge=5 5;", 1, 7);
        fault("edge=5x;", 1, 6);
        fault("edge=a;", 1, 5);
        fault("edge=land;", 1, 5);
        fault("edge=(5;", 1, 7);
        fault("edge=5);", 1, 6);
        fault("edge=();", 1, 6);
        fault("edge=5+;", 1, 7);
        fault("edge=5*/5;", 1, 7);
        fault("edge=x<5;", 1, 6);
        fault("edge=!5;", 1, 5);
        fault("edge=5!", 1, 6);
        fault("edge=5\f;", 1, 6);
        fault("edge=5\0;", 1, 6);
        fault("edge=5\u00e9;", 1, 6);
        fault("Edge=5;", 1, 0);
        fault("edges=5;", 1, 0);
        fault("x=5;", 1, 0);
        fault("land12;", 1, 6);
        fault("land 1;", 1, 6);
        fault("land 1 2 3;", 1, 9);
        fault("land x 2;", 1, 5);
        fault("land 12345 1;", 1, 5);
        fault("land 1 00001;", 1, 7);
        fault("want=1;", 1, 4);
        fault("want abcdefghi=1;", 1, 5);
        fault("want ab1=1;", 1, 7);
        fault("want a 1;", 1, 7);
        for (String word : "land edge share whale lead if want sight move births or and not x y week year noise off whales ice price".split(" ")) {
            fault("want " + word + "=1;", 1, 5);
        }
        fault("lead x<1;", 1, 5);
        fault("lead if x;", 1, 9);
        fault("lead if x 5;", 1, 10);
        fault("lead if x y<5;", 1, 10);
        fault("lead if x(5);", 1, 9);
        fault("lead if x=5;", 1, 9);
        fault("lead if x=1;", 1, 9);
        fault("lead if x!1;", 1, 9);
        fault("lead if x<==1;", 1, 11);
        fault("lead if x>1;", 1, 9);
        fault("lead if x<1<2;", 1, 11);
        fault("lead if (x<1);", 1, 10);
        fault("lead if x<1 or;", 1, 14);
        fault("lead if x<1 and or x<2;", 1, 16);
        fault("lead if x<1 not x<2;", 1, 12);
        fault("lead if not;", 1, 11);
        fault("lead if x not <1;", 1, 10);
        fault("sight x;", 1, 6);
        fault("sight 1 1;", 1, 8);
        fault("move;", 1, 4);
        fault("births -1;", 1, 7);
    }

    private static String lands(int many) {
        StringBuilder text = new StringBuilder();
        for (int i = 0; i < many; i++) {
            text.append("land ").append(i % 10).append(' ').append(i / 10).append(';');
        }
        return text.toString();
    }

    private static void faultsOfRoom() {
        fault("edge=((((((1))))));", 0, -1);
        fault("edge=(((((((1)))))));", 2, 11);
        fault("edge=((((((1))))))+((((((2))))));", 0, -1);
        fault("edge=((((((1))))))+(((((((2)))))));", 2, 25);
        fault("lead if ((((((1)))))) < (((((((2)))))));", 2, 30);
        fault("share=((((((1)+(2))))));", 0, -1);
        fault("share=((((((1)+((2)))))));", 2, 16);
        fault(lands(30), 0, -1);
        fault(lands(30) + "edge=1; land 9 9;", 2, 278);
        fault(lands(30) + "land", 2, 270);
        fault("lead if x<1;lead if x<2;lead if x<3;lead if x<4;", 0, -1);
        fault("lead if x<1;lead if x<2;lead if x<3;lead if x<4; lead if x<1;", 2, 49);
        fault("want a=1;want b=1;want c=1;want d=1;", 0, -1);
        fault("want a=1;want b=1;want c=1;want d=1;want a=1;", 2, 36);
        String of400 = "edge=1" + "+1".repeat(198) + ";";
        fault(of400, 0, -1);
        fault(of400 + " \n", 0, -1);
        fault(of400 + " move 1;", 2, 404);
        fault(of400 + " =", 1, 404);
        fault(of400 + " abcdefghi", 1, 404);
        fault(of400 + " #", 1, 404);
        fault("edge=1" + "+1".repeat(199) + ";", 2, 403);
        fault("edge=1" + "+1".repeat(198), 1, 402);
        fault("lead if " + "not ".repeat(394) + "x<1;", 0, -1);
        fault("lead if " + "not ".repeat(395) + "x<1;", 2, 8 + 4 * 395 + 3);
    }

    private static void faultsOfMeaning() {
        fault("want a=1;want a=2;", 3, 14);
        fault("want a=1;want b=1; want c=3; want b=2;", 3, 34);
        fault("want a=1;want aa=2;", 0, -1);
        fault("land 1 1;land 1 1;", 3, 16);
        fault("land 1 1;land 01 001;", 3, 17);
        fault("land 1 1;land 1 2;land 2 1;", 0, -1);
        fault("land 9 11;land 0 0;", 0, -1);
        fault("land 10 11;", 5, 5);
        fault("land 9 12;", 5, 7);
        fault("land 10 12;", 5, 5);
        fault("land 10 1;land 10 1;", 5, 5);
        fault("sight 0;sight 5;", 0, -1);
        fault("sight 6;", 5, 6);
        fault("sight 6;sight 5;", 5, 6);
        fault("move 1;move 3;", 0, -1);
        fault("move 0;", 5, 5);
        fault("move 4;", 5, 5);
        fault("births 0;births 100;", 0, -1);
        fault("births 101;", 5, 7);
    }

    private static void whichFaultIsFirst() {
        fault("edge=#;share", 1, 5);
        fault("edge=(((((((1)))))));share", 2, 11);
        fault("edge=5 share;edge=(((((((1)))))));", 1, 7);
        fault("land 10 1;edge", 1, 14);
        fault("land 10 1;edge=(((((((1)))))));", 2, 21);
        fault("want a=1;want a=2;land 10 1;", 3, 14);
        fault("land 10 1;want a=1;want a=2;", 5, 5);
        fault("move 9;sight 9;", 5, 5);
    }

    private static void whatAFaultChanges() {
        IceLogs logs = Check.with("land 1 2;edge=7;lead if x==0;want a=y;sight 3;move 2;births 9;");
        String[] faulty = {"land 3 3;edge=1;share=9;whale=9;want b=1;sight 1;move 1;births 1;#", "edge=2;land 10 0;",
            "edge=3;want a=1;want a=2;", "edge=4;edge=(((((((1)))))));"};
        int[] counts = {1, 1, 1, 0, 0, 3, 2, 9, 0};
        for (String text : faulty) {
            Check.due(4, "a FAULT", Check.tell(logs, text) != 0, true);
            for (int i = 0; i < counts.length; i++) {
                Check.due(4, "count(" + i + ") behind a FAULT", logs.count(i), counts[i]);
            }
            Check.due(4, "edge behind a FAULT", logs.edge(0, 0, 0, 0), 7);
            Check.due(4, "LAND behind a FAULT", logs.cell(1, 2, 0, 0, 0, 0), 2);
            Check.due(4, "no LAND behind a FAULT", logs.cell(3, 3, 0, 0, 0, 0), 1);
            Check.due(4, "a LEAD behind a FAULT", logs.cell(0, 3, 0, 0, 0, 0), 3);
            Check.due(4, "WHALES behind a FAULT", logs.cell(3, 3, 0, 0, 0, 2), 1);
        }
        Check.due(5, "place of the latest", logs.place(), 18);
        Check.due(4, "a good text", Check.tell(logs, "edge=1;"), 0);
        Check.due(5, "place without a FAULT", logs.place(), -1);
    }

    private static void whatATextChanges() {
        IceLogs logs = Check.with("land 1 2;edge=7;share=3;whale=8;lead if x==0;want a=y;sight 3;move 2;births 9;");
        logs.tails(3, 4);
        logs.lean(1, 2);
        logs.hold(2);
        logs.noon(1, 0, 0, 3, 5, 0, 0);
        Check.due(4, "read of a text without tells", Check.tell(logs, " "), 0);
        int[] counts = {0, 0, 0, 2, 0, 2, 1, 0, 1};
        for (int i = 0; i < counts.length; i++) {
            Check.due(4, "count(" + i + ") behind an empty text", logs.count(i), counts[i]);
        }
        Check.due(4, "edge if not told", logs.edge(0, 0, 0, 0), 5);
        Check.due(4, "SHARE if not told", logs.cell(0, 0, 0, 0, 0, 1), 0);
        Check.due(4, "WHALES if not told", logs.cell(0, 0, 0, 0, 0, 2), 1);
        Check.due(4, "LAND if not told", logs.cell(1, 2, 0, 0, 0, 0), 1);
        Check.due(4, "LEANS stay", logs.span(3, 0, 0, 0, 2, 0), 7);
        Check.due(4, "SLOTS stay", logs.again(2), true);
        Check.due(4, "FACTS are as held", logs.count(3), 1);
        IceLogs several = Check.with("edge=1;share=1;whale=1;edge=6;share=2;whale=3;sight 1;sight 4;move 1;move 3;births 5;births 6;");
        Check.due(4, "the last EDGE", several.edge(0, 0, 0, 0), 6);
        Check.due(4, "the last SHARE", several.cell(0, 0, 0, 0, 0, 1), 2);
        Check.due(4, "the last WHALE", several.cell(0, 0, 0, 0, 0, 2), 3);
        Check.due(4, "the last SIGHT", several.count(5), 4);
        Check.due(4, "the last MOVE", several.count(6), 3);
        Check.due(4, "the last BIRTHS", several.count(7), 6);
    }

    private static void counting() {
        IceLogs logs = Check.with("land 1 2;land 2 2;land 3 2;lead if 1<2;lead if 2<1;want a=1;sight 4;move 3;births 55;");
        logs.tails(0, 1);
        logs.annul(0);
        logs.hold(0);
        logs.hold(2);
        logs.hold(2);
        logs.feed(0, 0, 0, 0, 0);
        int[] counts = {3, 2, 1, 2, 20, 4, 3, 55, 2};
        for (int i = 0; i < counts.length; i++) {
            Check.due(42, "count(" + i + ")", logs.count(i), counts[i]);
        }
        Check.due(42, "count(-1)", logs.count(-1), -1);
        Check.due(42, "count(9)", logs.count(9), -1);
        Check.due(42, "count of none", logs.count(Integer.MAX_VALUE), -1);
    }
}
