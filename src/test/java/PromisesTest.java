/** The document's promises one by one, with answers worked out by hand from its words. */
public final class PromisesTest {
    private static final int BAD = -1, STATE = -2, FULL = -3, NONE = -9;
    private static final Check CHECK = new Check("PromisesTest");

    public static void main(String[] args) {
        newObject();
        typing();
        clearing();
        tellingWell();
        tellingEdges();
        tellingFaults();
        tellingTooMany();
        tellingAnew();
        readingsInOrder();
        slipping();
        cuttingSlips();
        turning();
        turningThreeTimes();
        turningBack();
        reasons();
        firstOfSeveral();
        changes();
        changesFirstOfSeveral();
        nowBeyond();
        rivals();
        swapping();
        swapLeast();
        swapWithoutTurns();
        adding();
        addingBeyond();
        striking();
        ruling();
        undoing();
        undoingTen();
        onDays();
        onDaysMissing();
        plates();
        odds();
        oddsOfRivals();
        oddsFull();
        images();
        counting();
        extremes();
        CHECK.end();
    }

    private static void due(String call, long got, long want) {
        CHECK.due(call, got, want);
    }

    private static int tell(MilesKept x, String text) {
        for (int i = 0; i < text.length(); i++) {
            x.type(text.charAt(i));
        }
        return x.house();
    }

    private static MilesKept told(String text) {
        MilesKept x = new MilesKept();
        int items = tell(x, text);
        CHECK.holds("'" + text + "' has no FAULT (" + items + ")", items >= 0);
        return x;
    }

    /** how, FAR and REASON of all READINGS in THE FIRST, as one text. */
    private static void first(String name, MilesKept x, String want) {
        StringBuilder got = new StringBuilder();
        for (int k = 0; k < x.count(0); k++) {
            got.append(x.reading(k, 3)).append(',').append(x.reading(k, 4)).append(',').append(x.reading(k, 5));
            got.append(' ');
        }
        CHECK.holds(name + ": THE FIRST is " + got + "due is " + want, got.toString().trim().equals(want));
    }

    private static void nows(String name, MilesKept x, int... want) {
        for (int what = 0; what < want.length; what++) {
            due(name + ": now(" + what + ")", x.now(what), want[what]);
        }
    }

    private static void fraction(String name, MilesKept x, int by, int g, long upper, long lower) {
        due(name + ": odds(" + by + ", " + g + ", 0)", x.odds(by, g, 0), upper);
        due(name + ": odds(" + by + ", " + g + ", 1)", x.odds(by, g, 1), lower);
    }

    // ---- promise 1

    private static void newObject() {
        MilesKept x = new MilesKept();
        int[] counts = {0, 0, 20, 0, 0, 0};
        for (int what = 0; what < counts.length; what++) {
            due("new: count(" + what + ")", x.count(what), counts[what]);
        }
        nows("new", x, 0, 0, 0, 0, NONE, NONE, 0, 0);
        due("new: rivals()", x.rivals(), 1);
        due("new: reading(0, 0)", x.reading(0, 0), BAD);
        due("new: change(0, 0)", x.change(0, 0), BAD);
        due("new: on(0, 0)", x.on(0, 0), NONE);
        due("new: plate(999)", x.plate(999), 0);
        due("new: undo()", x.undo(), STATE);
        due("new: back(0)", x.back(0), STATE);
        due("new: back(1)", x.back(1), STATE);
        due("new: clear()", x.clear(), 0);
        due("new: house()", x.house(), 0);
    }

    // ---- promises 2 and 3

    private static void typing() {
        MilesKept x = new MilesKept();
        due("type(-1)", x.type(-1), BAD);
        due("type(256)", x.type(256), BAD);
        due("type(0)", x.type(0), 1);
        due("type(255)", x.type(255), 2);
        for (int i = 3; i <= 120; i++) {
            due("type(32), letter " + i, x.type(32), i);
        }
        due("type(32) of a full text", x.type(32), FULL);
        due("type(256) of a full text", x.type(256), BAD);
        due("count(5) of a full text", x.count(5), 120);
    }

    private static void clearing() {
        MilesKept x = told("r1 2 3;f7;");
        x.type('f');
        x.type('8');
        x.type('?');
        due("clear()", x.clear(), 3);
        due("clear() again", x.clear(), 0);
        due("count(5) behind clear()", x.count(5), 0);
        due("count(0) behind clear()", x.count(0), 1);
        due("count(2) behind clear()", x.count(2), 7);
        due("type() behind clear()", x.type('f'), 1);
    }

    // ---- promise 4

    private static void tellingWell() {
        String[] texts = {"", "     ", "r0 0 1;", "r999 9999 9;", " r 5  6 7 ; ", "f1;", "f99;", "w0;", "w100;",
            "w9999;", "oa;", "oh;", "o h;", "p0ab;", "p999ha;", "p 9 a b ;f20;w0;oa;r1 1 1;"};
        int[] items = {0, 0, 1, 1, 1, 1, 1, 1, 1, 1, 1, 1, 1, 1, 1, 5};
        for (int i = 0; i < texts.length; i++) {
            MilesKept x = new MilesKept();
            due("house() of '" + texts[i] + "'", tell(x, texts[i]), items[i]);
            due("count(5) behind '" + texts[i] + "'", x.count(5), 0);
        }
    }

    private static void tellingEdges() {
        MilesKept x = told("r999 9999 9;w9999;f99;oh;p999gh;");
        int[] counts = {1, 1, 99, 9999, 7, 0};
        for (int what = 0; what < counts.length; what++) {
            due("edges: count(" + what + ")", x.count(what), counts[what]);
        }
        due("edges: DAY", x.reading(0, 0), 999);
        due("edges: COUNT", x.reading(0, 1), 9999);
        due("edges: WORTH", x.reading(0, 2), 9);
        due("edges: change DAY", x.change(0, 0), 999);
        due("edges: plate that was", x.change(0, 1), 6);
        due("edges: plate that is", x.change(0, 2), 7);
    }

    private static void tellingFaults() {
        String[] texts = {
            ";", "x1;", "A", "r", "r1", "r1 ", "r1 2", "r1 2 3", "r1 2 3 ", "r1 2 3r", "r1 2 3 4;", "r1000 2 3;",
            "r1 10000 3;", "r1 2 0;", "r1 2 10;", "r01 2 3;", "r1 00 3;", "r 1  02 3;", "r1 2 123456789012345;",
            "ra 2 3;", "r1 a 3;", "r-1 2 3;", "r1\t2 3;", "r1 2 3,", "f0;", "f100;", "f;", "fa;", "f1 2;", "f1;f2;",
            "w99;", "w1;", "w10000;", "w0;w0;", "w100;w0;", "oi;", "o1;", "oa;oa;", "oab;", "p0aa;", "p0ai;", "p0ia;",
            "p0a;", "p0;", "pab;", "p1000ab;", "p0a1;", "p0abc;", "r1 2 3;;", "R1 2 3;", "r1 2 3;   q", "9;",
            "r1 2 3;f1;f", "r1 2 3;r1 2 3", "f20" + (char) 160 + ";", "p 0 h h ;", "rr1 2 3;", "f020;", "w00;", "o`;",
            "r1 2 18446744073709551617;", "r1 2 3:", "r1/2 3;"
        };
        int[] faults = {
            0, 0, 0, 1, 2, 3, 4, 6, 7, 6, 7, 1,
            3, 5, 5, 1, 3, 5, 5,
            1, 3, 1, 2, 6, 1, 1, 1, 1, 3, 3,
            1, 1, 1, 3, 5, 1, 1, 3, 2, 3, 3, 2,
            3, 2, 1, 1, 3, 4, 7, 0, 10, 0,
            10, 13, 3, 6, 1, 1, 1, 1,
            5, 6, 2
        };
        due("the faults' number", faults.length, texts.length);
        for (int i = 0; i < texts.length; i++) {
            MilesKept x = told("r4 5 6;f7;w800;oc;p9cd;");
            x.adds(5, 5, 5);
            x.keep(0);
            due("house() of '" + texts[i] + "'", tell(x, texts[i]), -10 - faults[i]);
            int[] counts = {2, 1, 7, 800, 2, texts[i].length()};
            for (int what = 0; what < counts.length; what++) {
                due("count(" + what + ") behind a FAULT", x.count(what), counts[what]);
            }
            due("now(7) behind a FAULT", x.now(7), 1);
            due("back(0) behind a FAULT", x.back(0), 2);
            due("house() again", x.house(), -10 - faults[i]);
        }
    }

    private static void tellingTooMany() {
        String readings = "r0 0 1;".repeat(10);
        due("ten readings", tell(new MilesKept(), readings), 10);
        due("an eleventh r", tell(new MilesKept(), readings + " r"), -10 - 71);
        due("an eleventh r that is faulty", tell(new MilesKept(), readings + "r1000"), -10 - 70);
        String plates = "p0ab;".repeat(6);
        due("six changes", tell(new MilesKept(), plates), 6);
        due("a seventh p", tell(new MilesKept(), plates + "p0ab;"), -10 - 30);
        due("ten and six", tell(new MilesKept(), readings + plates), 16);
        MilesKept x = new MilesKept();
        due("120 letters", tell(x, "r0 0 1;".repeat(9) + "w100;" + " ".repeat(51) + "r"), -10 - 120);
    }

    private static void tellingAnew() {
        MilesKept x = told("r4 5 6;f7;w800;oc;p9cd;");
        x.adds(1, 1, 1);
        x.keep(0);
        x.keep(1);
        due("house() of blanks", tell(x, "  "), 0);
        int[] counts = {0, 0, 20, 0, 0, 0};
        for (int what = 0; what < counts.length; what++) {
            due("anew: count(" + what + ")", x.count(what), counts[what]);
        }
        nows("anew", x, 0, 0, 0, 0, NONE, NONE, 0, 0);
        due("anew: undo()", x.undo(), STATE);
        due("anew: back(0)", x.back(0), STATE);
        due("anew: back(1)", x.back(1), STATE);
        due("anew: plate(999)", x.plate(999), 0);
    }

    // ---- promises 5 and 7

    private static void readingsInOrder() {
        MilesKept x = told("r5 50 1;r3 30 2;r5 51 3;r3 31 4;r0 0 5;");
        int[] days = {0, 3, 3, 5, 5};
        int[] counts = {0, 30, 31, 50, 51};
        int[] worths = {5, 2, 4, 1, 3};
        for (int k = 0; k < 5; k++) {
            due("in order: reading(" + k + ", 0)", x.reading(k, 0), days[k]);
            due("in order: reading(" + k + ", 1)", x.reading(k, 1), counts[k]);
            due("in order: reading(" + k + ", 2)", x.reading(k, 2), worths[k]);
        }
        due("reading(-1, 0)", x.reading(-1, 0), BAD);
        due("reading(5, 0)", x.reading(5, 0), BAD);
        due("reading(0, -1)", x.reading(0, -1), BAD);
        due("reading(0, 6)", x.reading(0, 6), BAD);
        // Of one DAY both can only be KEPT if they are as FAR: the worthier ones are.
        first("in order", x, "1,0,0 0,-9,3 1,31,0 0,-9,3 1,51,0");
        nows("in order", x, 24, 3, 21, 21);
    }

    private static void slipping() {
        // 160 is 100 in the other unit: as read it would race from 100 on one DAY.
        MilesKept x = told("r0 100 5;r0 160 3;");
        first("slipped", x, "1,100,0 2,100,0");
        nows("slipped", x, 13, 2, 3, 3);
        due("slipped: rivals()", x.rivals(), 1);
    }

    private static void cuttingSlips() {
        // 7 times 5 by 8 is 4 and 3 eighths.
        first("cut to 4", told("r0 4 5;r0 7 3;"), "1,4,0 2,4,0");
        first("not up to 5", told("r0 5 5;r0 7 3;"), "1,5,0 0,-9,2");
        // 9999 slipped is 6249; the first of all may be SLIPPED too.
        first("the first one slipped", told("r0 9999 1;r0 6249 9;"), "2,6249,0 1,6249,0");
    }

    private static void turning() {
        MilesKept x = told("w1000;r0 990 1;r1 5 1;");
        first("turned", x, "1,990,0 1,1005,0");
        nows("turned", x, 4, 2, 3, 3);
        // Just as far as RATE lets it go, and one more.
        first("turned at RATE", told("w1000;r0 990 2;r1 10 2;"), "1,990,0 1,1010,0");
        first("turned beyond RATE", told("w1000;f1;r0 990 2;r1 0 1;"), "1,990,0 0,-9,2");
        first("no turn if as far", told("w100;r0 50 2;r1 50 2;"), "1,50,0 1,50,0");
        first("a slipped one turns by all of WRAP", told("w100;f99;r0 80 9;r1 160 1;"), "1,80,0 1,160,0");
        first("slipped and turned", told("w100;f25;r0 80 9;r1 8 1;"), "1,80,0 2,105,0");
    }

    private static void turningThreeTimes() {
        MilesKept x = told("w100;f99;r0 60 1;r1 50 1;r2 40 1;r3 30 1;");
        first("three turns", x, "1,60,0 1,150,0 1,240,0 1,330,0");
        MilesKept y = told("w100;f99;r0 60 9;r1 50 9;r2 40 9;r3 30 9;r4 20 1;");
        first("no fourth turn", y, "1,60,0 1,150,0 1,240,0 1,330,0 0,-9,1");
        MilesKept z = told("f99;r0 60 9;r1 50 1;");
        first("no turn without WRAP", z, "1,60,0 0,-9,1");
    }

    private static void turningBack() {
        // TURNS are the fewest for each READING by itself: a COUNT beyond WRAP needs none behind one that has two.
        MilesKept x = told("w100;f99;r0 90 9;r1 80 9;r2 70 9;r3 310 9;");
        first("fewer turns than ahead", x, "1,90,0 1,180,0 1,270,0 1,310,0");
    }

    private static void reasons() {
        MilesKept x = told("r0 9000 1;r1 100 9;r2 90 1;r3 5000 1;r4 160 9;r5 150 3;r5 165 2;");
        // 9000 has none KEPT ahead; 90 falls (and so does 56); 5000 races; 150 falls; 165 stands.
        first("reasons", x, "0,-9,3 1,100,0 0,-9,1 0,-9,2 1,160,0 0,-9,1 1,165,0");
        MilesKept y = told("f10;r0 100 5;r5 140 1;r10 100 5;");
        // 140 could stand behind 100, but what comes then could not.
        first("neither", y, "1,100,0 0,-9,3 1,100,0");
        MilesKept z = told("w1000;f10;r0 990 9;r1 100 1;r2 1009 9;");
        // It would turn, and race then.
        first("turned and raced", z, "1,990,0 0,-9,2 1,1009,0");
    }

    private static void firstOfSeveral() {
        MilesKept x = told("r0 50 1;r0 70 1;");
        first("the earlier one", x, "1,50,0 0,-9,2");
        nows("the earlier one", x, 2, 1, 0, 3);
        due("the earlier one: rivals()", x.rivals(), 2);
        // 80 SLIPPED is 50: worth 2 SLIPPED is as good as worth 1 AS READ, and READING 0 AS READ is ahead.
        MilesKept y = told("r0 80 1;r0 50 1;r0 80 1;");
        first("as read ahead of slipped", y, "1,80,0 0,-9,1 1,80,0");
        nows("as read ahead of slipped", y, 4, 2, 5, 7);
        due("as read ahead of slipped: rivals()", y.rivals(), 2);
        MilesKept z = told("r0 80 2;r0 50 1;r0 80 1;");
        // AS READ 4 and 2; SLIPPED 2, 2 and 1.
        first("more good", z, "1,80,0 0,-9,1 1,80,0");
        due("more good: rivals()", z.rivals(), 1);
        MilesKept w = told("r0 8 2;r0 5 2;");
        // AS READ alone is 4, as is the second one alone; SLIPPED with the second is 6.
        first("slipped rather than dropped", w, "2,5,0 1,5,0");
        nows("slipped rather than dropped", w, 6, 2, 3, 3);
    }

    private static void nowBeyond() {
        MilesKept x = told("r0 0 1;");
        due("now(-1)", x.now(-1), BAD);
        due("now(8)", x.now(8), BAD);
        nows("one reading", x, 2, 1, 1, 1, NONE, NONE, 0, 0);
    }

    // ---- promise 8

    private static void rivals() {
        due("one reading: rivals()", told("r0 0 1;").rivals(), 1);
        MilesKept x = told("r0 10 1;r0 20 1;r0 30 1;r0 40 1;");
        due("four of one day: rivals()", x.rivals(), 4);
        nows("four of one day", x, 2, 1, 0, 15);
        MilesKept y = told("r0 10 1;r0 20 1;r9 30 1;r9 40 1;");
        due("two times two: rivals()", y.rivals(), 4);
        nows("two times two", y, 4, 2, 0, 15);
        MilesKept z = told("r0 0 1;r0 0 1;r0 0 1;r0 0 1;r0 0 1;r0 0 1;r0 0 1;r0 0 1;r0 0 1;r0 0 1;");
        due("ten at 0: rivals()", z.rivals(), 1);
        nows("ten at 0", z, 20, 10, 1023, 1023);
        MilesKept w = told("r0 0 9;r0 1 1;r0 2 1;r0 16 2;r0 10 1;");
        // COUNTS 1 and 2 SLIPPED are 0 and 1: only the first of these goes with 0.
        due("one for all: now(2)", w.now(2), 3);
        first("one for all", w, "1,0,0 2,0,0 0,-9,2 0,-9,2 0,-9,2");
    }

    // ---- SWAP

    private static void swapping() {
        MilesKept x = told("r0 500 2;r1 510 2;r2 5 2;r3 15 2;");
        nows("swap", x, 8, 2, 0, 15, 2, 16);
        MilesKept y = told("r0 5 2;r1 10 2;");
        nows("no swap", y, 8, 2, 3, 3, NONE, NONE);
    }

    private static void swapLeast() {
        // 700 goes with neither of the others, whether it is the last one or the first one of its half.
        MilesKept x = told("r0 500 1;r1 700 1;r2 5 1;");
        nows("the least t", x, 2, 1, 0, 7, 1, 4);
    }

    private static void swapWithoutTurns() {
        // A turned counter needs no SWAP; one that raced does.
        MilesKept x = told("w100;f20;r0 90 1;r1 10 1;r5 85 1;");
        nows("swap without turns", x, 6, 3, 7, 7, NONE, NONE);
        MilesKept y = told("w100;f20;r0 90 1;r1 10 1;r2 25 1;r3 240 1;");
        nows("swap ahead of a race", y, 6, 3, 7, 7, 3, 8);
    }

    // ---- promise 6 and 14

    private static void changes() {
        MilesKept x = told("p7bc;p5ab;p7cd;p6ca;");
        int[][] want = {{5, 0, 1, 1}, {6, 2, 0, 0}, {7, 1, 2, 1}, {7, 2, 3, 1}};
        for (int k = 0; k < want.length; k++) {
            for (int what = 0; what < 4; what++) {
                due("change(" + k + ", " + what + ")", x.change(k, what), want[k][what]);
            }
        }
        due("changes: now(6)", x.now(6), 3);
        due("change(-1, 0)", x.change(-1, 0), BAD);
        due("change(4, 0)", x.change(4, 0), BAD);
        due("change(0, -1)", x.change(0, -1), BAD);
        due("change(0, 4)", x.change(0, 4), BAD);
    }

    private static void held(String name, MilesKept x, int... want) {
        int all = 0;
        for (int k = 0; k < want.length; k++) {
            due(name + ": change(" + k + ", 3)", x.change(k, 3), want[k]);
            all += want[k];
        }
        due(name + ": now(6)", x.now(6), all);
    }

    private static void changesFirstOfSeveral() {
        held("two as good", told("p1ab;p2ac;"), 1, 0);
        held("more behind the second", told("p1ab;p2ac;p3cd;"), 0, 1, 1);
        held("and back", told("p1ab;p2ba;p3ab;"), 1, 1, 1);
        held("none from START", told("p1bc;p2cd;"), 0, 0);
        held("START is b", told("ob;p1bc;p2cd;"), 1, 1);
        held("the first of equal ones", told("p1ab;p1ab;p2bc;"), 1, 0, 1);
        held("held early rather than late", told("p1ab;p2ac;p3bd;p4cd;"), 1, 0, 1, 0);
    }

    private static void plates() {
        MilesKept x = told("oc;p10cd;p10de;p20ab;p30eh;");
        int[] days = {0, 9, 10, 20, 29, 30, 999};
        int[] want = {2, 2, 4, 4, 4, 7, 7};
        for (int i = 0; i < days.length; i++) {
            due("plate(" + days[i] + ")", x.plate(days[i]), want[i]);
        }
        due("plate(-1)", x.plate(-1), BAD);
        due("plate(1000)", x.plate(1000), BAD);
    }

    // ---- promises 9 to 12

    private static void adding() {
        MilesKept x = told("r5 50 1;");
        due("adds() behind", x.adds(6, 60, 2), 1);
        due("adds() ahead", x.adds(0, 0, 3), 0);
        due("adds() of the same day", x.adds(5, 51, 4), 2);
        due("adds() between", x.adds(3, 30, 5), 1);
        int[] counts = {0, 30, 50, 51, 60};
        for (int k = 0; k < counts.length; k++) {
            due("added: reading(" + k + ", 1)", x.reading(k, 1), counts[k]);
        }
        due("added: now(7)", x.now(7), 4);
        // 0, 30, 51 (rather than 50) and 60.
        nows("added", x, 28, 4, 27, 27);
    }

    private static void addingBeyond() {
        MilesKept x = new MilesKept();
        int[][] bad = {{-1, 0, 1}, {1000, 0, 1}, {0, -1, 1}, {0, 10000, 1}, {0, 0, 0}, {0, 0, 10}};
        for (int[] one : bad) {
            due("adds() beyond", x.adds(one[0], one[1], one[2]), BAD);
        }
        due("beyond: now(7)", x.now(7), 0);
        for (int i = 0; i < 10; i++) {
            due("adds() " + i, x.adds(999, 9999, 9), i);
        }
        due("adds() of an eleventh", x.adds(0, 0, 1), FULL);
        due("BAD ahead of FULL", x.adds(0, 0, 0), BAD);
        due("full: now(0)", x.now(0), 180);
        due("full: now(7)", x.now(7), 10);
    }

    private static void striking() {
        MilesKept x = told("r0 0 1;r1 10 2;r2 20 3;");
        due("strikes(-1)", x.strikes(-1), BAD);
        due("strikes(3)", x.strikes(3), BAD);
        due("struck none: now(7)", x.now(7), 0);
        due("strikes(1)", x.strikes(1), 2);
        due("struck: reading(1, 1)", x.reading(1, 1), 20);
        due("struck: now(0)", x.now(0), 8);
        due("strikes(2)", x.strikes(2), BAD);
        due("strikes(0)", x.strikes(0), 1);
        due("strikes(0)", x.strikes(0), 0);
        due("strikes(0) of none", x.strikes(0), BAD);
        nows("all struck", x, 0, 0, 0, 0, NONE, NONE, 0, 3);
    }

    private static void ruling() {
        MilesKept x = told("r0 90 3;r1 5 2;");
        int[][] bad = {{0, 0}, {100, 0}, {1, 1}, {1, 99}, {1, 10000}, {1, -1}, {-1, 100}};
        for (int[] one : bad) {
            due("rules() beyond", x.rules(one[0], one[1]), BAD);
        }
        due("beyond: now(7)", x.now(7), 0);
        due("rules(15, 100)", x.rules(15, 100), 10);
        due("rules(14, 100)", x.rules(14, 100), 8);
        first("ruled", x, "1,90,0 2,103,0");
        due("rules(12, 100)", x.rules(12, 100), 6);
        due("rules(99, 9999)", x.rules(99, 9999), 6);
        due("rules(1, 0)", x.rules(1, 0), 6);
        due("rules(1, 0) again", x.rules(1, 0), 6);
        due("ruled: count(2)", x.count(2), 1);
        due("ruled: count(3)", x.count(3), 0);
        due("ruled: now(7)", x.now(7), 6);
    }

    private static void undoing() {
        MilesKept x = told("r5 50 1;r5 60 2;f30;");
        x.strikes(0);
        x.adds(5, 70, 3);
        x.rules(40, 500);
        x.rules(0, 0);
        due("undo() of rules()", x.undo(), 2);
        due("undone: count(2)", x.count(2), 30);
        due("undone: count(3)", x.count(3), 0);
        due("undo() of adds()", x.undo(), 1);
        due("undone: count(0)", x.count(0), 1);
        due("undone: now(7)", x.now(7), 1);
        due("undo() of strikes()", x.undo(), 0);
        due("undone: reading(0, 1)", x.reading(0, 1), 50);
        due("undone: reading(1, 1)", x.reading(1, 1), 60);
        due("undone: now(0)", x.now(0), 4);
        due("undo() of none", x.undo(), STATE);
        due("a reading added anew", x.adds(5, 80, 1), 2);
    }

    private static void undoingTen() {
        MilesKept x = new MilesKept();
        for (int i = 1; i <= 13; i++) {
            x.rules(i, 0);
            due("now(7) behind " + i, x.now(7), Math.min(i, 10));
        }
        for (int i = 9; i >= 0; i--) {
            due("undo()", x.undo(), i);
            due("undone: count(2)", x.count(2), 3 + i);
        }
        due("undo() of what is lost", x.undo(), STATE);
        due("lost: count(2)", x.count(2), 3);
    }

    // ---- promise 13

    private static void onDays() {
        MilesKept x = told("f10;r10 100 1;r20 160 1;");
        int[][] want = {{10, 100, 100}, {11, 100, 110}, {13, 100, 130}, {14, 100, 140}, {15, 110, 150},
            {16, 120, 160}, {17, 130, 160}, {19, 150, 160}};
        for (int[] one : want) {
            due("on(" + one[0] + ", 0)", x.on(one[0], 0), one[1]);
            due("on(" + one[0] + ", 1)", x.on(one[0], 1), one[2]);
        }
    }

    private static void onDaysMissing() {
        MilesKept x = told("f10;r10 100 1;r20 160 1;r30 9000 1;");
        int[] days = {0, 9, 20, 25, 30, 999};
        for (int day : days) {
            due("on(" + day + ", 0) of none", x.on(day, 0), NONE);
            due("on(" + day + ", 1) of none", x.on(day, 1), NONE);
        }
        due("on(-1, 0)", x.on(-1, 0), BAD);
        due("on(1000, 0)", x.on(1000, 0), BAD);
        due("on(15, -1)", x.on(15, -1), BAD);
        due("on(15, 2)", x.on(15, 2), BAD);
        MilesKept y = told("w100;f10;r0 90 1;r5 20 1;");
        due("turned: on(2, 0)", y.on(2, 0), 90);
        due("turned: on(3, 0)", y.on(3, 0), 100);
        due("turned: on(3, 1)", y.on(3, 1), 120);
    }

    // ---- promise 15

    private static void odds() {
        MilesKept x = told("r0 0 1;r1 10 2;");
        fraction("two", x, 3, 0, 1, 1);
        fraction("two", x, 3, 1, 91, 100);
        fraction("two", x, 3, 2, 91, 100);
        fraction("two", x, 3, 3, 7, 10);
        fraction("two", x, 3, 4, 7, 10);
        fraction("two", x, 3, 5, 49, 100);
        fraction("two", x, 3, 6, 49, 100);
        fraction("two", x, 3, 7, 0, 1);
        fraction("two", x, 0, 6, 1, 1);
        fraction("two", x, 10, 1, 0, 1);
        fraction("two", x, 10, 0, 1, 1);
        fraction("two", x, 5, 6, 1, 4);
        fraction("two", x, 5, 180, 0, 1);
        int[][] bad = {{-1, 0, 0}, {11, 0, 0}, {0, -1, 0}, {0, 181, 0}, {0, 0, -1}, {0, 0, 2}};
        for (int[] one : bad) {
            due("odds() beyond", x.odds(one[0], one[1], one[2]), BAD);
        }
        x.strikes(1);
        fraction("one is left", x, 3, 2, 7, 10);
        fraction("one is left", x, 3, 3, 0, 1);
        x.undo();
        fraction("two again", x, 3, 6, 49, 100);
        due("two: now(7)", x.now(7), 0);
    }

    private static void oddsOfRivals() {
        // Any one of three is 2; by 2 of 10 all are lost in 8 of 1000.
        fraction("three rivals", told("r0 10 1;r0 20 1;r0 30 1;"), 2, 2, 124, 125);
        // The worthier one can be lost, the other one is KEPT then.
        MilesKept x = told("w100;f20;r0 90 3;r1 10 1;r2 90 2;");
        // GOODS: all: 90, 110 and (190 races; 156 races) or 90, 90: 10. 0 1: 8; 0 2: 10; 1 2: 4; 0: 6; 1: 2; 2: 4.
        fraction("by what is left", x, 5, 10, 1, 4);
        fraction("by what is left", x, 5, 8, 3, 8);
        fraction("by what is left", x, 5, 5, 1, 2);
        fraction("by what is left", x, 5, 4, 3, 4);
        fraction("by what is left", x, 5, 2, 7, 8);
    }

    private static void oddsFull() {
        MilesKept x = told("r0 0 9;".repeat(10));
        fraction("ten", x, 0, 180, 1, 1);
        fraction("ten", x, 1, 180, 3486784401L, 10000000000L);
        fraction("ten", x, 5, 180, 1, 1024);
        fraction("ten", x, 5, 163, 1, 1024);
        fraction("ten", x, 5, 162, 11, 1024);
        fraction("ten", x, 9, 1, 6513215599L, 10000000000L);
    }

    // ---- promises 16 to 18

    private static void images() {
        MilesKept x = told("r0 0 1;f30;w500;oc;p5cd;");
        due("keep(-1)", x.keep(-1), BAD);
        due("keep(2)", x.keep(2), BAD);
        due("back(-1)", x.back(-1), BAD);
        due("back(2)", x.back(2), BAD);
        due("back(1) of none", x.back(1), STATE);
        due("keep(0)", x.keep(0), 1);
        x.adds(1, 10, 2);
        x.rules(40, 600);
        due("keep(1)", x.keep(1), 2);
        due("kept: now(7)", x.now(7), 2);
        x.adds(2, 20, 3);
        due("back(0)", x.back(0), 1);
        due("back: now(7)", x.now(7), 0);
        due("back: undo()", x.undo(), STATE);
        int[] counts = {1, 1, 30, 500, 2, 0};
        for (int what = 0; what < counts.length; what++) {
            due("back: count(" + what + ")", x.count(what), counts[what]);
        }
        due("back: now(0)", x.now(0), 2);
        fraction("back", x, 5, 2, 1, 2);
        due("back(1)", x.back(1), 2);
        due("back: count(2)", x.count(2), 40);
        due("back: reading(1, 1)", x.reading(1, 1), 10);
        due("back: now(0)", x.now(0), 6);
        x.strikes(0);
        due("undo() behind back()", x.undo(), 0);
        due("back(0) again", x.back(0), 1);
        x.strikes(0);
        due("keep(0) over another", x.keep(0), 0);
        x.undo();
        due("back(0) of the later one", x.back(0), 0);
    }

    private static void counting() {
        MilesKept x = told("r0 0 1;f30;w500;oc;p5cd;p6de;");
        x.type('r');
        int[] counts = {1, 2, 30, 500, 2, 1};
        for (int what = 0; what < counts.length; what++) {
            due("count(" + what + ")", x.count(what), counts[what]);
        }
        due("count(-1)", x.count(-1), BAD);
        due("count(6)", x.count(6), BAD);
        x.rules(9, 0);
        x.adds(0, 0, 1);
        due("text stays: count(5)", x.count(5), 1);
    }

    // ---- wrong numbers of any size

    private static void extremes() {
        MilesKept x = told("r0 0 1;r9 99 2;p5ab;");
        int[] far = {Integer.MIN_VALUE, -1000000, 1000000, Integer.MAX_VALUE};
        for (int n : far) {
            String name = "(" + n + "): ";
            long[] answers = {x.type(n), x.reading(n, 0), x.reading(0, n), x.change(n, 0), x.change(0, n), x.now(n),
                x.adds(n, 0, 1), x.adds(0, n, 1), x.adds(0, 0, n), x.strikes(n), x.rules(n, 0), x.rules(1, n),
                x.on(n, 0), x.on(0, n), x.plate(n), x.odds(n, 0, 0), x.odds(0, n, 0), x.odds(0, 0, n), x.keep(n),
                x.back(n), x.count(n)};
            for (int i = 0; i < answers.length; i++) {
                due(name + "call " + i, answers[i], BAD);
            }
        }
        due("extremes: now(7)", x.now(7), 0);
        due("extremes: count(5)", x.count(5), 0);
        nows("extremes", x, 6, 2, 3, 3, NONE, NONE, 1, 0);
    }
}
