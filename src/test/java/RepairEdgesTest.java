import java.io.IOException;

/** The sentences about REPAIRS and SWAP (promises 5, 7 and 8), each with its edges. */
public final class RepairEdgesTest {
    private static final int BAD = Sentences.BAD, NONE = Sentences.NONE;
    /** Of one DAY, and so far from one another that no two can be KEPT, SLIPPED or not. */
    private static final String TEN_RIVALS = "r0 1000 1;r0 1010 1;r0 1020 1;r0 1030 1;r0 1040 1;r0 1050 1;"
        + "r0 1060 1;r0 1070 1;r0 1080 1;r0 1090 1;";
    private static Sentences s;

    public static void main(String[] args) throws IOException {
        s = new Sentences("RepairEdgesTest");
        falling();
        racing();
        slipping();
        turning();
        good();
        firstOfTheBest();
        certainAndPossible();
        reasons();
        swap();
        reading();
        now();
        rivals();
        s.end();
    }

    // ---- what may stand behind what

    private static void falling() {
        s.holds("FAR of the second is no less than that of the first", () -> {
            s.first("r0 1000 9;r9 1000 1;", "1,1000,0 1,1000,0");
            s.first("r0 1000 9;r9 999 1;", "1,1000,0 0,-9,1");
            s.first("r0 0 9;r9 0 1;", "1,0,0 1,0,0");
            s.first("r9 1000 9;r9 999 1;", "1,1000,0 0,-9,1");
            s.first("r0 9999 9;r999 9998 1;", "1,9999,0 0,-9,1");
        });
        s.holds("of each two KEPT, one behind the other", () -> {
            // What is DROPPED between two does not count: RATE is for the DAYS between those that are KEPT.
            s.first("r0 1000 9;r1 5000 1;r2 1040 9;", "1,1000,0 0,-9,2 1,1040,0");
            s.first("r0 1000 9;r1 5000 1;r2 1041 8;", "1,1000,0 0,-9,2 0,-9,2");
            // 1000, 1020 and 1040 go step by step.
            s.first("r0 1000 1;r1 1020 1;r2 1040 1;", "1,1000,0 1,1020,0 1,1040,0");
            // 1001 would do behind 1000, not behind 1020.
            s.first("r0 1000 9;r1 1020 9;r2 1001 1;", "1,1000,0 1,1020,0 0,-9,1");
        });
    }

    private static void racing() {
        s.holds("so far in a day at most", () -> {
            s.first("f1;r0 1000 9;r1 1001 1;", "1,1000,0 1,1001,0");
            s.first("f1;r0 1000 9;r1 1002 1;", "1,1000,0 0,-9,2");
            s.first("f99;r0 1000 9;r1 1099 1;", "1,1000,0 1,1099,0");
            s.first("f99;r0 1000 9;r1 1100 1;", "1,1000,0 0,-9,2");
        });
        s.holds("and no more than that and RATE times the DAYS between", () -> {
            s.first("f7;r2 1000 9;r5 1021 1;", "1,1000,0 1,1021,0");
            s.first("f7;r2 1000 9;r5 1022 1;", "1,1000,0 0,-9,2");
            // Of one DAY: as far, to the last one.
            s.first("f99;r5 1000 9;r5 1000 1;", "1,1000,0 1,1000,0");
            s.first("f99;r5 1000 9;r5 1001 1;", "1,1000,0 0,-9,2");
            // All DAYS that there are.
            s.first("f1;r0 9000 9;r999 9999 1;", "1,9000,0 1,9999,0");
            s.first("f1;r0 8999 9;r999 9999 1;", "1,8999,0 0,-9,2");
            s.first("f99;r0 0 9;r999 9999 1;", "1,0,0 1,9999,0");
        });
    }

    private static void slipping() {
        s.holds("its COUNT times 5, by 8, cut", () -> {
            int[] counts = {1, 2, 3, 4, 5, 6, 7, 8, 9, 15, 16, 9997, 9998, 9999};
            int[] slipped = {0, 1, 1, 2, 3, 3, 4, 5, 5, 9, 10, 6248, 6248, 6249};
            for (int i = 0; i < counts.length; i++) {
                // Of one DAY it must be just as far.
                s.first("r0 " + slipped[i] + " 9;r0 " + counts[i] + " 1;",
                    "1," + slipped[i] + ",0 2," + slipped[i] + ",0");
            }
            s.first("r0 6248 9;r0 9999 1;", "1,6248,0 0,-9,2");
            s.first("r0 6250 9;r0 9999 1;", "1,6250,0 0,-9,2");
            // 0 SLIPPED is 0, but AS READ is better.
            s.first("r0 0 9;r0 0 1;", "1,0,0 1,0,0");
        });
        s.holds("A READING is KEPT AS READ, KEPT SLIPPED, or DROPPED.", () -> {
            s.first("r0 100 9;r1 110 1;r1 180 1;r1 999 1;", "1,100,0 1,110,0 0,-9,2 0,-9,2");
            s.first("r0 100 9;r1 110 1;r1 176 1;r1 999 1;", "1,100,0 1,110,0 2,110,0 0,-9,2");
        });
    }

    private static void turning() {
        s.holds("the counter goes from one less than it to 0", () -> {
            s.first("w100;f1;r0 99 9;r1 0 1;", "1,99,0 1,100,0");
            s.first("w9999;f1;r0 9998 9;r1 0 1;", "1,9998,0 1,9999,0");
            // From 99 to 1 is two: SLIPPED it is 0, one further.
            s.first("w100;f1;r0 99 9;r1 1 1;", "1,99,0 2,100,0");
            s.first("w100;f1;r0 98 9;r1 0 1;", "1,98,0 0,-9,2");
            s.first("w0;f1;r0 99 9;r1 0 1;", "1,99,0 0,-9,1");
        });
        s.holds("and WRAP as many times (0 to 3) as TURNS tells", () -> {
            s.first("w100;f99;r0 60 9;r1 50 9;r2 40 9;r3 30 9;", "1,60,0 1,150,0 1,240,0 1,330,0");
            s.first("w100;f99;r0 60 9;r1 50 9;r2 40 9;r3 30 9;r4 20 1;",
                "1,60,0 1,150,0 1,240,0 1,330,0 0,-9,1");
            s.first("w100;r0 350 9;r1 50 1;", "1,350,0 1,350,0");
            s.first("w100;r0 350 9;r1 51 1;", "1,350,0 1,351,0");
            s.first("w100;r0 350 9;r1 49 1;", "1,350,0 0,-9,1");
            s.first("w100;r0 350 9;r1 90 1;", "1,350,0 2,356,0");
            s.nows(s.told("w100;r0 350 9;r1 90 1;"), 19, 2, 3, 3);
            s.first("w3333;r0 9999 9;r1 0 1;", "1,9999,0 1,9999,0");
            s.first("w3332;r0 9999 9;r1 0 1;", "1,9999,0 0,-9,1");
        });
        s.holds("of the first that is KEPT 0", () -> {
            s.first("w100;r0 5 1;", "1,5,0");
            s.first("w100;r0 9999 1;", "1,9999,0");
            // With a turn 50 would be 150 too.
            s.first("w100;f1;r0 50 9;r1 150 1;", "1,50,0 0,-9,2");
            s.first("w100;r0 9000 1;r1 5 9;r2 6 9;", "0,-9,3 1,5,0 1,6,0");
        });
        s.holds("of another one the fewest by which FAR is no less than that of the one KEPT ahead of it", () -> {
            s.first("w100;r0 50 9;r1 50 1;", "1,50,0 1,50,0");
            s.first("w100;r0 150 9;r1 50 1;", "1,150,0 1,150,0");
            s.first("w100;r0 250 9;r1 50 1;", "1,250,0 1,250,0");
            // One turn is too few by one, and two race.
            s.first("w100;r0 151 9;r1 50 1;", "1,151,0 0,-9,2");
            // A SLIPPED one turns by all of WRAP: 5 and 100.
            s.first("w100;f25;r0 80 9;r1 8 1;", "1,80,0 2,105,0");
            // A COUNT beyond WRAP needs none, though the one ahead of it has two.
            s.first("w100;f99;r0 90 9;r1 80 9;r2 70 9;r3 310 9;", "1,90,0 1,180,0 1,270,0 1,310,0");
        });
    }

    // ---- the BEST

    private static void good() {
        s.holds("twice the WORTH of each that is KEPT AS READ, the WORTH of each KEPT SLIPPED", () -> {
            s.nows(s.told("r0 5 1;"), 2, 1);
            s.nows(s.told("r0 5 9;"), 18, 1);
            s.nows(s.told("r0 5 9;r0 8 1;"), 19, 2);
            s.nows(s.told("r0 5 9;r0 8 9;"), 27, 2);
            s.nows(s.told("r0 5 9;r0 10 9;"), 18, 1);
            s.nows(s.told("r0 0 1;".repeat(10)), 20, 10);
            s.nows(s.told("r9 9999 9;".repeat(10)), 180, 10);
        });
        s.holds("BEST: the REPAIRS of greatest GOOD.", () -> {
            // Few that are worth much, or many that are worth little, or more.
            s.first("r0 1000 9;r0 500 3;r0 500 3;r0 500 2;", "1,1000,0 0,-9,1 0,-9,1 0,-9,1");
            s.first("r0 1000 9;r0 500 3;r0 500 3;r0 500 4;", "0,-9,3 1,500,0 1,500,0 1,500,0");
        });
    }

    private static void firstOfTheBest() {
        s.holds("by READING 0, 1, .. the one that is KEPT AS READ there, else SLIPPED, else DROPPED", () -> {
            // READING 0 AS READ is 4, SLIPPED with READING 1 it is 2 and 2.
            s.first("r0 8 2;r0 5 1;", "1,8,0 0,-9,1");
            // SLIPPED with READING 1, or READING 2 with READING 3 SLIPPED: 3.
            s.first("r0 8 1;r0 5 1;r0 100 1;r0 160 1;", "2,5,0 1,5,0 0,-9,2 0,-9,2");
            // AS READ and DROPPED are as good.
            s.first("r0 1000 1;r0 1010 1;", "1,1000,0 0,-9,2");
            // READING 0 is in all of them: READING 1 tells.
            s.first("r0 1000 9;r1 1020 1;r1 1010 1;", "1,1000,0 1,1020,0 0,-9,1");
            s.first(TEN_RIVALS, "1,1000,0" + " 0,-9,2".repeat(9));
        });
    }

    private static void certainAndPossible() {
        s.holds("CERTAIN: READINGS that are KEPT in each of the BEST; POSSIBLE: in any.", () -> {
            s.nows(new MilesKept(), 0, 0, 0, 0);
            s.nows(s.told("r0 0 1;"), 2, 1, 1, 1);
            s.nows(s.told("r0 1000 1;r0 1010 1;"), 2, 1, 0, 3);
            // KEPT AS READ in one, SLIPPED in the other one: KEPT in each.
            s.nows(s.told("r0 8 2;r0 5 1;"), 4, 1, 1, 3);
            // DROPPED in each.
            s.nows(s.told("r0 1000 9;r0 1010 1;"), 18, 1, 1, 1);
            s.nows(s.told(TEN_RIVALS), 2, 1, 0, 1023);
            s.nows(s.told(TEN_RIVALS.replace("1090 1", "1090 2")), 4, 1, 512, 512);
            s.nows(s.told("r0 0 1;".repeat(10)), 20, 10, 1023, 1023);
        });
    }

    private static void reasons() {
        s.holds("REASON of a READING in THE FIRST: 0 it is KEPT", () -> {
            s.readings(s.told("r0 5 9;r0 8 1;"), 5, 0, 0);
        });
        s.holds("as if KEPT AS READ behind the one KEPT ahead of it: 1 it would fall; 2 it would race; 3 neither", () ->
        {
            s.readings(s.told("r0 1000 9;r1 999 1;"), 5, 0, 1);
            s.readings(s.told("r0 1000 9;r1 1021 1;"), 5, 0, 2);
            // 1000 and 1020 could be, but the worthier one behind it could not then.
            s.readings(s.told("r0 1000 9;r1 1000 1;r1 1010 9;"), 5, 0, 3, 0);
            s.readings(s.told("r0 1000 9;r1 1020 1;r1 1010 9;"), 5, 0, 3, 0);
            // It falls even behind three turns; it would not fall, but race, behind fewer.
            s.readings(s.told("w100;r0 350 9;r1 49 1;"), 5, 0, 1);
            s.readings(s.told("w100;r0 340 9;r1 61 1;"), 5, 0, 2);
            // It is AS READ that counts: SLIPPED, 1600 would be 1000.
            s.readings(s.told("r0 1000 9;r1 1600 1;r1 1010 9;"), 5, 0, 2, 0);
            // The one KEPT ahead of it, not one that is DROPPED.
            s.readings(s.told("r0 1000 9;r1 5000 1;r2 4999 1;"), 5, 0, 2, 2);
        });
        s.holds("(3, too, if none is KEPT ahead of it)", () -> {
            s.readings(s.told("r0 9000 1;r1 100 9;"), 5, 3, 0);
            s.readings(s.told("r0 9000 1;r0 8000 1;r1 100 9;"), 5, 3, 3, 0);
        });
    }

    // ---- SWAP

    private static void swap(String text, int without, int t, int together) {
        MilesKept x = s.told(text);
        s.due("now(0) of '" + text + "'", x.now(0), without);
        s.due("now(4) of '" + text + "'", x.now(4), t);
        s.due("now(5) of '" + text + "'", x.now(5), together);
    }

    private static void swap() {
        s.holds("a counter that was changed just ahead of READING t (1 .. )", () -> {
            swap("", 0, NONE, NONE);
            swap("r0 1000 9;", 18, NONE, NONE);
            swap("r0 1000 1;r1 5 1;", 2, 1, 4);
            swap("r0 0 9;r1 10 9;r2 5000 1;", 36, 2, 38);
            swap("r0 0 1;".repeat(9) + "r1 5000 1;", 18, 9, 20);
            swap("r0 5000 1;" + "r1 0 1;".repeat(9), 18, 1, 20);
        });
        s.holds("READINGS ahead of it and those from it on are repaired each for themselves", () -> {
            // 1600 SLIPPED goes with 1000; 300 falls behind both and is the other counter's.
            swap("r0 1000 2;r0 1600 1;r1 300 1;r2 310 1;", 5, 2, 9);
            // In each half one is DROPPED.
            swap("r0 1000 2;r1 3000 1;r2 100 2;r3 3000 1;r4 120 1;", 6, 1, 10);
        });
        s.holds("(the first KEPT has no TURNS)", () -> {
            // Three turns are behind 330: 20 would need a fourth one, but none if it is the first one.
            swap("w100;f99;r0 60 9;r1 50 9;r2 40 9;r3 30 9;r4 20 1;", 72, 1, 74);
            // Without, 60 SLIPPED (37) saves one turn: 1 and 2, 2, 2, 18.
            swap("w100;f99;r0 60 1;r1 50 1;r2 40 1;r3 30 1;r4 20 9;", 25, 1, 26);
            // Nor has 50 a turn to come to 150.
            swap("w100;f1;r0 50 1;r1 50 9;r2 150 9;r3 9000 9;", 20, 2, 38);
            swap("w100;r0 90 1;r1 10 1;r5 85 1;", 6, NONE, NONE);
        });
        s.holds("the t by which both GOODS together are more than without, and most, of several the least; how much"
            + " together; NONE.", () -> {
            swap("r0 0 1;r1 10 1;", 4, NONE, NONE);
            swap("r0 500 1;r1 505 1;r2 5 1;r3 9 1;", 4, 2, 8);
            swap("r0 500 1;r1 700 1;r2 5 1;", 2, 1, 4);
            // More by one alone: SLIPPED 800 is 500 and goes with 500 without, AS READ it is the other counter's.
            swap("r0 500 1;r0 800 1;", 3, 1, 4);
        });
        s.holds("(As things are NOW; nothing is changed.)", () -> {
            MilesKept x = s.told("r0 1000 9;r1 5 9;");
            s.nows(x, 18, 1, 0, 3, 1, 36);
            x.strikes(0);
            s.nows(x, 18, 1, 1, 1, NONE, NONE);
            x.adds(0, 1000, 1);
            s.nows(x, 18, 1, 2, 2, 1, 20);
            x.rules(20, 996);
            s.nows(x, 20, 2, 3, 3, NONE, NONE);
            x.undo();
            s.nows(x, 18, 1, 2, 2, 1, 20);
            s.changesNothing("all that only asks", Sentences::rich, RepairEdgesTest::askAll);
        });
    }

    private static void askAll(MilesKept x) {
        for (int what = -1; what <= 8; what++) x.now(what);
        for (int what = -1; what <= 6; what++) x.count(what);
        for (int what = -1; what <= 6; what++) x.reading(2, what);
        for (int what = -1; what <= 4; what++) x.change(1, what);
        for (int day = -1; day <= 10; day++) x.on(day, 0);
        for (int day = -1; day <= 10; day++) x.plate(day);
        for (int g = -1; g <= 10; g++) x.odds(5, g, 1);
        x.rivals();
        x.odds(0, 180, 0);
        x.odds(10, 0, 0);
    }

    // ---- promises 5, 7 and 8

    private static void reading() {
        s.holds("0 DAY, 1 COUNT, 2 WORTH, 3 how it is in THE FIRST (0 DROPPED, 1 AS READ, 2 SLIPPED)", () -> {
            MilesKept x = s.told("r9 100 7;r9 160 6;r9 5000 5;");
            s.readings(x, 0, 9, 9, 9);
            s.readings(x, 1, 100, 160, 5000);
            s.readings(x, 2, 7, 6, 5);
            s.readings(x, 3, 1, 2, 0);
        });
        s.holds("4 FAR there (NONE), 5 REASON. BAD.", () -> {
            MilesKept x = s.told("r9 100 7;r9 160 6;r9 5000 5;");
            s.readings(x, 4, 100, 100, NONE);
            s.readings(x, 5, 0, 0, 2);
            for (int k : new int[] {-1, 4, 9, 10, Integer.MIN_VALUE, Integer.MAX_VALUE}) {
                s.refused("reading(" + k + ", 0)", Sentences::rich, y -> y.reading(k, 0), BAD);
            }
            for (int what : new int[] {-1, 6, Integer.MIN_VALUE, Integer.MAX_VALUE}) {
                s.refused("reading(0, " + what + ")", Sentences::rich, y -> y.reading(0, what), BAD);
            }
            MilesKept full = Sentences.fullOfReadings();
            s.due("reading(9, 0) of ten", full.reading(9, 0), 3);
            s.due("reading(10, 0) of ten", full.reading(10, 0), BAD);
        });
    }

    private static void now() {
        s.holds("0 GOOD of the BEST, 1 how many are KEPT in THE FIRST, 2 CERTAIN (bits), 3 POSSIBLE (bits)", () -> {
            s.nows(s.told("r0 1000 9;r1 1020 1;r1 1010 1;r2 1030 2;"), 24, 3, 9, 15);
        });
        s.holds("4 SWAP: t (NONE), 5 both GOODS together (NONE), 6 how many CHANGES are HELD", () -> {
            s.nows(s.told("r0 1000 1;r1 5 1;p1ab;p2ac;p3ba;"), 2, 1, 0, 3, 1, 4, 2, 0);
            s.nows(s.told("p1ba;"), 0, 0, 0, 0, NONE, NONE, 0, 0);
            s.nows(s.told("p0ab;p0bc;p0cd;p0de;p0ef;p0fg;"), 0, 0, 0, 0, NONE, NONE, 6, 0);
        });
        s.holds("7 how many may be UNDONE. BAD.", () -> {
            MilesKept x = s.told("r0 0 1;");
            s.due("now(7) of none", x.now(7), 0);
            for (int i = 1; i <= 11; i++) {
                x.rules(i, 0);
                s.due("now(7) behind " + i, x.now(7), Math.min(i, 10));
            }
            for (int what : new int[] {-1, 8, Integer.MIN_VALUE, Integer.MAX_VALUE}) {
                s.refused("now(" + what + ")", Sentences::rich, y -> y.now(what), BAD);
            }
        });
    }

    private static void rivals() {
        s.holds("How many REPAIRS are the BEST (1 without READINGS).", () -> {
            MilesKept x = new MilesKept();
            s.due("rivals() of none", x.rivals(), 1);
            x.adds(0, 0, 1);
            s.due("rivals() of one", x.rivals(), 1);
            x.strikes(0);
            s.due("rivals() when all are STRUCK", x.rivals(), 1);
            s.due("rivals() of two", s.told("r0 1000 1;r0 1010 1;").rivals(), 2);
            s.due("AS READ, SLIPPED are two", s.told("r0 8 2;r0 5 1;").rivals(), 2);
            s.due("rivals() of ten", s.told(TEN_RIVALS).rivals(), 10);
            String pairs = "f30;r0 1000 1;r0 1010 1;r1 1020 1;r1 1030 1;r2 1040 1;r2 1050 1;"
                + "r3 1060 1;r3 1070 1;r4 1080 1;r4 1090 1;";
            s.due("two of each of five DAYS", s.told(pairs).rivals(), 32);
        });
    }
}
