import java.io.IOException;

/** The sentences about DAYS, PLATES and ODDS (promises 6 and 13 to 15), each with its edges. */
public final class DayEdgesTest {
    private static final int BAD = Sentences.BAD, NONE = Sentences.NONE;
    private static final int LEAST = Integer.MIN_VALUE, MOST = Integer.MAX_VALUE;
    private static Sentences s;

    public static void main(String[] args) throws IOException {
        s = new Sentences("DayEdgesTest");
        onDays();
        onNone();
        onBad();
        changes();
        held();
        plates();
        oddsEdges();
        oddsOfWhatIsLeft();
        oddsInLeastTerms();
        oddsBad();
        s.end();
    }

    // ---- promise 13

    private static void on(MilesKept x, int day, int least, int greatest) {
        s.due("on(" + day + ", 0)", x.on(day, 0), least);
        s.due("on(" + day + ", 1)", x.on(day, 1), greatest);
    }

    private static void onDays() {
        s.holds("the least, the greatest FAR that it can have had then", () -> {
            MilesKept x = s.told("f10;r10 1000 1;r20 1060 1;");
            on(x, 10, 1000, 1000);
            on(x, 11, 1000, 1010);
            on(x, 14, 1000, 1040);
            on(x, 15, 1010, 1050);
            on(x, 16, 1020, 1060);
            on(x, 17, 1030, 1060);
            on(x, 19, 1050, 1060);
            MilesKept whole = s.told("f1;r0 0 1;r999 9999 1;");
            // 9999 SLIPPED is 6249, too far for RATE 1: only one of them is KEPT.
            on(whole, 500, NONE, NONE);
            MilesKept edges = s.told("f99;r0 0 1;r999 9999 1;");
            on(edges, 0, 0, 0);
            on(edges, 1, 0, 99);
            on(edges, 101, 0, 9999);
            on(edges, 998, 9900, 9999);
        });
        s.holds("ON a DAY, by THE FIRST", () -> {
            // 1010 is as good as 1020, but behind it in THE TEXT.
            MilesKept x = s.told("r0 1000 9;r1 1020 1;r1 1010 1;r2 1030 9;");
            on(x, 0, 1000, 1000);
            on(x, 1, 1020, 1020);
            // KEPT AS READ on DAY 0 rather than SLIPPED there: 8, not 5.
            on(s.told("r0 8 2;r0 5 1;r1 8 1;"), 0, 8, 8);
        });
        s.holds("at RATE at most", () -> {
            // Just at RATE all the way: there is no choice.
            MilesKept x = s.told("f7;r0 1000 1;r9 1063 1;");
            for (int day = 0; day < 9; day++) on(x, day, 1000 + 7 * day, 1000 + 7 * day);
            // It stands still.
            MilesKept y = s.told("f7;r0 1000 1;r9 1000 1;");
            for (int day = 0; day < 9; day++) on(y, day, 1000, 1000);
        });
        s.holds("between what is KEPT at that DAY or ahead (the last one) and what is KEPT behind it (the first one)",
            () -> {
                MilesKept x = s.told("r10 1000 1;r10 1000 1;r11 1010 1;r12 1015 1;r12 1015 1;r13 1020 1;");
                on(x, 10, 1000, 1000);
                on(x, 11, 1010, 1010);
                on(x, 12, 1015, 1015);
                // What is DROPPED does not count: 5000 on DAY 15.
                MilesKept y = s.told("f10;r10 1000 9;r15 5000 1;r20 1100 9;");
                on(y, 15, 1050, 1050);
                // SLIPPED, and behind a turn.
                MilesKept z = s.told("w1000;f8;r0 990 9;r2 8 1;r4 1010 9;");
                s.first(z, "SLIPPED, turned", "1,990,0 2,1005,0 1,1010,0");
                on(z, 1, 997, 998);
                on(z, 3, 1005, 1010);
            });
    }

    private static void onNone() {
        s.holds("at RATE at most; NONE (one of these is missing).", () -> {
            on(new MilesKept(), 0, NONE, NONE);
            on(new MilesKept(), 999, NONE, NONE);
            MilesKept one = s.told("r5 10 1;");
            on(one, 4, NONE, NONE);
            on(one, 5, NONE, NONE);
            on(one, 6, NONE, NONE);
            MilesKept two = s.told("r5 10 1;r7 20 1;");
            on(two, 0, NONE, NONE);
            on(two, 4, NONE, NONE);
            on(two, 5, 10, 10);
            on(two, 6, 10, 20);
            on(two, 7, NONE, NONE);
            on(two, 999, NONE, NONE);
            // READINGS are there, but those ahead, those behind are DROPPED.
            MilesKept none = s.told("r0 9000 1;r5 1000 9;r6 1010 9;r9 5000 1;");
            on(none, 4, NONE, NONE);
            on(none, 5, 1000, 1000);
            on(none, 6, NONE, NONE);
            // All of one DAY: none is behind it.
            on(s.told("r5 10 1;r5 10 1;"), 5, NONE, NONE);
            on(s.told("r0 0 1;r0 0 1;r999 0 1;"), 998, 0, 0);
            on(s.told("r0 0 1;r0 0 1;r999 0 1;"), 999, NONE, NONE);
        });
    }

    private static void onBad() {
        s.holds("ON a DAY: the least (what = 0), the greatest (1); NONE. BAD.", () -> {
            s.due("on(0, 0)", Sentences.rich().on(0, 0), 100);
            for (int day : new int[] {-1, 1000, LEAST, MOST}) {
                s.refused("on(" + day + ", 0)", Sentences::rich, x -> x.on(day, 0), BAD);
                s.refused("on(" + day + ", 1)", Sentences::rich, x -> x.on(day, 1), BAD);
            }
            for (int what : new int[] {-1, 2, LEAST, MOST}) {
                s.refused("on(0, " + what + ")", Sentences::rich, x -> x.on(0, what), BAD);
                s.refused("on(999, " + what + ") where it would be NONE", Sentences::rich, x -> x.on(999, what), BAD);
            }
        });
    }

    // ---- promise 6

    private static void changes() {
        s.holds("0 DAY, 1 the plate that was (0 a ..), 2 the other one, 3 whether it is HELD (1, 0). BAD.", () -> {
            MilesKept x = s.told("p999hg;p0ah;p5bc;");
            s.changes(x, 0, 0, 5, 999);
            s.changes(x, 1, 0, 1, 7);
            s.changes(x, 2, 7, 2, 6);
            s.changes(x, 3, 1, 0, 1);
            for (int k : new int[] {-1, 3, 5, 6, LEAST, MOST}) {
                s.refused("change(" + k + ", 0)", Sentences::rich, y -> y.change(k, 0), BAD);
                s.refused("change(" + k + ", 3)", Sentences::rich, y -> y.change(k, 3), BAD);
            }
            for (int what : new int[] {-1, 4, LEAST, MOST}) {
                s.refused("change(0, " + what + ")", Sentences::rich, y -> y.change(0, what), BAD);
            }
            MilesKept six = s.told("p0ab;".repeat(6));
            s.due("change(5, 0) of six", six.change(5, 0), 0);
            s.due("change(6, 0) of six", six.change(6, 0), BAD);
        });
    }

    private static void held() {
        s.holds("the most CHANGES, as they are numbered, one behind the other", () -> {
            s.changes(s.told("p0ab;p0bc;p0cd;p0de;p0ef;p0fg;"), 3, 1, 1, 1, 1, 1, 1);
            s.changes(s.told("p5ab;p4bc;p3cd;p2de;p1ef;p0fg;"), 3, 0, 0, 0, 0, 0, 1);
            s.changes(s.told("p1ab;p2ac;p3cd;"), 3, 0, 1, 1);
            s.changes(s.told("p1ab;p2bc;p3ac;p4cd;"), 3, 1, 1, 0, 1);
            s.changes(s.told("p1ba;p2ab;p3ba;p4ab;"), 3, 0, 1, 1, 1);
            s.changes(s.told("p1ab;p2bc;p3ad;p4de;p5ef;"), 3, 0, 0, 1, 1, 1);
        });
        s.holds("each of the plate that is (START first) to another one", () -> {
            s.changes(s.told("p0bc;"), 3, 0);
            s.changes(s.told("ob;p0bc;"), 3, 1);
            s.changes(s.told("p0bc;ob;p0cb;"), 3, 1, 1);
            s.changes(s.told("oh;p0ab;p1bc;"), 3, 0, 0);
            s.due("now(6) of none", s.told("oh;p0ab;p1bc;").now(6), 0);
            s.due("plate(999) of none", s.told("oh;p0ab;p1bc;").plate(999), 7);
        });
        s.holds("(bits; of several the first, as THE FIRST: HELD rather than not)", () -> {
            s.changes(s.told("p1ab;p2ac;"), 3, 1, 0);
            s.changes(s.told("p1ab;p1ab;"), 3, 1, 0);
            s.changes(s.told("p1ab;p2ac;p3bd;p4cd;"), 3, 1, 0, 1, 0);
            s.changes(s.told("p1ab;p2bc;p3bd;p4de;p5ce;"), 3, 1, 1, 0, 0, 1);
            s.changes(s.told("p1ab;p2bc;p3bd;p4df;p5fe;"), 3, 1, 0, 1, 1, 1);
            s.changes(s.told("p1ab;p2bc;p3bd;p4de;p5cf;p6fa;"), 3, 1, 1, 0, 0, 1, 1);
        });
    }

    // ---- promise 14

    private static void plates() {
        s.holds("the plate on a DAY (behind CHANGES of that DAY)", () -> {
            MilesKept x = s.told("oc;p0cd;p10de;p10ef;p20ab;p999fh;");
            int[] days = {0, 9, 10, 11, 20, 998, 999};
            int[] want = {3, 3, 5, 5, 5, 5, 7};
            for (int i = 0; i < days.length; i++) s.due("plate(" + days[i] + ")", x.plate(days[i]), want[i]);
            MilesKept ahead = s.told("ob;p1ba;");
            s.due("plate(0) ahead of all", ahead.plate(0), 1);
            s.due("plate(1)", ahead.plate(1), 0);
        });
        s.holds("The plate on a DAY (0 a ..). BAD.", () -> {
            for (int day : new int[] {-1, 1000, LEAST, MOST}) {
                s.refused("plate(" + day + ")", Sentences::rich, x -> x.plate(day), BAD);
            }
            s.due("plate(0) of a new one", new MilesKept().plate(0), 0);
            s.due("plate(999) of a new one", new MilesKept().plate(999), 0);
        });
    }

    // ---- promise 15

    private static void oddsEdges() {
        s.holds("ODDS by x (0 .. 10), g (0 .. 180)", () -> {
            MilesKept x = s.told("r0 0 9;".repeat(10));
            s.odds(x, 0, 180, 1, 1);
            s.odds(x, 10, 180, 0, 1);
            s.odds(x, 0, 0, 1, 1);
            s.odds(x, 10, 0, 1, 1);
            s.odds(x, 10, 1, 0, 1);
            s.odds(x, 1, 180, 3486784401L, 10000000000L);
            s.odds(x, 9, 180, 1, 10000000000L);
            s.odds(x, 9, 1, 6513215599L, 10000000000L);
            s.odds(x, 1, 1, 9999999999L, 10000000000L);
            s.odds(x, 5, 1, 1023, 1024);
            MilesKept none = new MilesKept();
            for (int by = 0; by <= 10; by += 5) {
                s.odds(none, by, 0, 1, 1);
                s.odds(none, by, 1, 0, 1);
                s.odds(none, by, 180, 0, 1);
            }
        });
        s.holds("is g or more", () -> {
            MilesKept one = s.told("r0 0 5;");
            s.odds(one, 3, 9, 7, 10);
            s.odds(one, 3, 10, 7, 10);
            s.odds(one, 3, 11, 0, 1);
            s.odds(one, 0, 10, 1, 1);
            s.odds(one, 0, 11, 0, 1);
            s.odds(one, 3, 0, 1, 1);
            s.odds(one, 3, 1, 7, 10);
        });
    }

    private static void oddsOfWhatIsLeft() {
        s.holds("each READING is lost by x of 10, for itself", () -> {
            MilesKept two = s.told("r0 0 1;r1 10 2;");
            s.odds(two, 3, 6, 49, 100);
            s.odds(two, 3, 5, 49, 100);
            s.odds(two, 3, 4, 7, 10);
            s.odds(two, 3, 2, 91, 100);
            s.odds(two, 3, 7, 0, 1);
        });
        s.holds("that GOOD of the BEST of what is left is g or more", () -> {
            // 1010 is DROPPED if 1000 is there, and KEPT if that is lost.
            MilesKept x = s.told("r0 1000 9;r0 1010 1;");
            s.odds(x, 1, 18, 9, 10);
            s.odds(x, 1, 3, 9, 10);
            s.odds(x, 1, 2, 99, 100);
            MilesKept mirrored = s.told("r0 1000 1;r0 1010 9;");
            s.odds(mirrored, 1, 18, 9, 10);
            s.odds(mirrored, 1, 2, 99, 100);
            // 50 alone has no TURNS, behind 350 it has three.
            MilesKept y = s.told("w100;r0 350 1;r1 50 1;");
            s.odds(y, 5, 4, 1, 4);
            s.odds(y, 5, 2, 3, 4);
            // Both are left: 1600 is KEPT SLIPPED as 1000; one is left: AS READ, whichever it is.
            MilesKept z = s.told("r0 1000 1;r0 1600 1;");
            s.odds(z, 2, 3, 16, 25);
            s.odds(z, 2, 2, 24, 25);
            // A SLIPPED one between others: 2, 1 and 2.
            s.odds(s.told("r0 1000 1;r0 1600 1;r0 1000 1;"), 5, 5, 1, 8);
            s.odds(s.told("w100;r0 350 9;r1 90 1;r1 356 1;"), 5, 21, 1, 8);
            // The first one has no turn to come from 50 to 150, and 20 is the most.
            s.odds(s.told("w100;f1;r0 50 1;r1 50 9;r2 150 9;"), 0, 20, 1, 1);
            s.odds(s.told("w100;f1;r0 50 1;r1 50 9;r2 150 9;"), 0, 21, 0, 1);
            // Without the one of WORTH 9 it is 4 at most, whatever else is left.
            s.odds(s.told("r0 9000 1;r1 1000 9;r2 1000 1;r3 1000 1;"), 5, 5, 1, 2);
            s.odds(s.told("r0 9000 1;r1 1000 9;r1 1600 1;r1 1000 1;"), 5, 5, 1, 2);
            s.odds(s.told("w100;r0 9000 1;r1 350 9;r2 90 1;r2 356 1;"), 5, 5, 1, 2);
            s.odds(s.told("w100;r0 9000 1;r1 350 9;r2 50 1;r2 350 1;"), 5, 5, 1, 2);
        });
        s.holds("(As things are NOW; nothing is changed.)", () -> {
            MilesKept x = s.told("r0 1000 1;r0 1600 1;");
            s.odds(x, 2, 3, 16, 25);
            x.strikes(0);
            s.odds(x, 2, 2, 4, 5);
            s.odds(x, 2, 3, 0, 1);
            x.undo();
            s.odds(x, 2, 3, 16, 25);
            x.adds(0, 1000, 9);
            s.odds(x, 0, 21, 1, 1);
            x.strikes(0);
            // 1600 SLIPPED is 1000; with that WRAP 1000 is behind a turn, and 1600 AS READ.
            s.odds(x, 0, 19, 1, 1);
            s.odds(x, 0, 20, 0, 1);
            x.rules(1, 600);
            s.odds(x, 0, 20, 1, 1);
            x.undo();
            s.odds(x, 0, 20, 0, 1);
        });
    }

    private static void oddsInLeastTerms() {
        s.holds("ODDS: upper (what = 0), lower number (1), in least terms.", () -> {
            MilesKept one = s.told("r0 0 1;");
            int[] uppers = {1, 9, 4, 7, 3, 1, 2, 3, 1, 1, 0};
            int[] lowers = {1, 10, 5, 10, 5, 2, 5, 10, 5, 10, 1};
            for (int by = 0; by <= 10; by++) s.odds(one, by, 1, uppers[by], lowers[by]);
            MilesKept two = s.told("r0 0 1;r0 0 1;");
            s.odds(two, 5, 4, 1, 4);
            s.odds(two, 2, 4, 16, 25);
            s.odds(two, 4, 4, 9, 25);
            s.odds(two, 6, 4, 4, 25);
            s.odds(two, 0, 4, 1, 1);
            s.odds(two, 4, 5, 0, 1);
            MilesKept ten = s.told("r0 0 1;".repeat(10));
            s.odds(ten, 8, 20, 1, 9765625);
            s.odds(ten, 5, 20, 1, 1024);
        });
    }

    private static void oddsBad() {
        s.holds("lower number (1), in least terms. BAD.", () -> {
            int[][] bad = {{-1, 0, 0}, {11, 0, 0}, {LEAST, 0, 0}, {MOST, 0, 0}, {0, -1, 0}, {0, 181, 0},
                {0, LEAST, 0}, {0, MOST, 0}, {0, 0, -1}, {0, 0, 2}, {0, 0, LEAST}, {0, 0, MOST}};
            for (int[] one : bad) {
                String name = "odds(" + one[0] + ", " + one[1] + ", " + one[2] + ")";
                s.refused(name, Sentences::rich, x -> x.odds(one[0], one[1], one[2]), BAD);
                s.refused(name + " of none", MilesKept::new, x -> x.odds(one[0], one[1], one[2]), BAD);
            }
        });
    }
}
