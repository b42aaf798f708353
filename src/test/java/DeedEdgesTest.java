import java.io.IOException;

/** The sentences about what is done and about IMAGES (promises 9 to 12 and 16 to 18), each with its edges. */
public final class DeedEdgesTest {
    private static final int BAD = Sentences.BAD, STATE = Sentences.STATE, FULL = Sentences.FULL;
    private static final int LEAST = Integer.MIN_VALUE, MOST = Integer.MAX_VALUE;
    private static Sentences s;

    public static void main(String[] args) throws IOException {
        s = new Sentences("DeedEdgesTest");
        constants();
        adding();
        striking();
        ruling();
        undoing();
        keeping();
        goingBack();
        counting();
        refusing();
        s.end();
    }

    private static void constants() {
        s.holds("public static final int BAD = -1, STATE = -2, FULL = -3, NONE = -9;", () -> {
            s.due("BAD", MilesKept.BAD, -1);
            s.due("STATE", MilesKept.STATE, -2);
            s.due("FULL", MilesKept.FULL, -3);
            s.due("NONE", MilesKept.NONE, -9);
        });
    }

    // ---- promise 9

    private static void adding() {
        s.holds("ADDED: its number.", () -> {
            MilesKept x = new MilesKept();
            s.due("adds() of none", x.adds(500, 1, 1), 0);
            s.due("adds() of the same DAY", x.adds(500, 2, 1), 1);
            s.due("adds() of the first DAY", x.adds(0, 3, 1), 0);
            s.due("adds() of the last DAY", x.adds(999, 4, 1), 3);
            s.due("adds() of the first DAY again", x.adds(0, 5, 1), 1);
            s.due("adds() of the last DAY again", x.adds(999, 6, 1), 5);
            s.due("adds() between", x.adds(499, 7, 1), 2);
            s.due("adds() of the same DAY again", x.adds(500, 8, 1), 5);
            s.readings(x, 1, 3, 5, 7, 1, 2, 8, 4, 6);
            s.readings(x, 0, 0, 0, 499, 500, 500, 500, 999, 999);
        });
        s.holds("`int adds(int day, int count, int worth)`: ADDED: its number. BAD", () -> {
            MilesKept x = new MilesKept();
            s.due("adds() of all the least", x.adds(0, 0, 1), 0);
            s.due("adds() of all the most", x.adds(999, 9999, 9), 1);
            s.readings(x, 0, 0, 999);
            s.readings(x, 1, 0, 9999);
            s.readings(x, 2, 1, 9);
            int[][] bad = {{-1, 0, 1}, {1000, 0, 1}, {LEAST, 0, 1}, {MOST, 0, 1}, {0, -1, 1}, {0, 10000, 1},
                {0, LEAST, 1}, {0, MOST, 1}, {0, 0, 0}, {0, 0, 10}, {0, 0, -1}, {0, 0, LEAST}, {0, 0, MOST},
                {-1, -1, 0}, {1000, 10000, 10}};
            for (int[] one : bad) {
                String name = "adds(" + one[0] + ", " + one[1] + ", " + one[2] + ")";
                s.refused(name, Sentences::rich, y -> y.adds(one[0], one[1], one[2]), BAD);
            }
        });
        s.holds("its number. BAD; FULL.", () -> {
            MilesKept x = new MilesKept();
            for (int k = 0; k < 10; k++) s.due("adds() " + k, x.adds(5, k, 1), k);
            s.due("adds() of an eleventh", x.adds(5, 10, 1), FULL);
            s.refused("adds() of ten", Sentences::fullOfReadings, y -> y.adds(0, 0, 1), FULL);
            s.refused("adds() of ten, behind all", Sentences::fullOfReadings, y -> y.adds(999, 9999, 9), FULL);
            s.refused("adds() of ten, a wrong DAY", Sentences::fullOfReadings, y -> y.adds(1000, 0, 1), BAD);
            s.refused("adds() of ten, a wrong COUNT", Sentences::fullOfReadings, y -> y.adds(0, -1, 1), BAD);
            s.refused("adds() of ten, a wrong WORTH", Sentences::fullOfReadings, y -> y.adds(0, 0, 0), BAD);
            x.strikes(9);
            s.due("adds() when there is room again", x.adds(5, 10, 1), 9);
            MilesKept told = s.told("r0 0 1;".repeat(10));
            s.due("adds() behind ten that were told", told.adds(0, 0, 1), FULL);
        });
    }

    // ---- promise 10

    private static void striking() {
        s.holds("STRUCK: how many are left. BAD.", () -> {
            MilesKept x = Sentences.fullOfReadings();
            s.due("strikes() of the last of ten", x.strikes(9), 9);
            s.due("strikes() of the first", x.strikes(0), 8);
            s.readings(x, 1, 1, 1, 1, 1, 1, 1, 1, 2);
            MilesKept y = s.told("r0 1 1;r1 2 2;r2 3 3;");
            s.due("strikes() between", y.strikes(1), 2);
            s.readings(y, 0, 0, 2);
            s.readings(y, 1, 1, 3);
            s.readings(y, 2, 1, 3);
            s.due("strikes() of one that is gone", y.strikes(2), BAD);
            s.due("strikes() of the last but one", y.strikes(0), 1);
            s.due("strikes() of the only one", y.strikes(0), 0);
            s.due("strikes() of none", y.strikes(0), BAD);
            s.nows(y, 0, 0, 0, 0, Sentences.NONE, Sentences.NONE, 0, 3);
            for (int k : new int[] {-1, 4, 5, 9, 10, LEAST, MOST}) {
                s.refused("strikes(" + k + ")", Sentences::rich, z -> z.strikes(k), BAD);
            }
            s.refused("strikes(10) of ten", Sentences::fullOfReadings, z -> z.strikes(10), BAD);
            s.refused("strikes(0) of a new one", MilesKept::new, z -> z.strikes(0), BAD);
        });
    }

    // ---- promise 11

    private static void ruling() {
        s.holds("RULED: GOOD of the BEST then. BAD.", () -> {
            MilesKept x = s.told("r0 1000 9;r1 1002 1;");
            s.due("rules(1, 0)", x.rules(1, 0), 18);
            s.due("rules(2, 0)", x.rules(2, 0), 20);
            s.due("rules(99, 0)", x.rules(99, 0), 20);
            s.due("rules(1, 100)", x.rules(1, 100), 18);
            s.due("rules(99, 9999)", x.rules(99, 9999), 20);
            s.counts(x, 2, 0, 99, 9999);
            s.due("rules() of no READINGS", new MilesKept().rules(1, 100), 0);
            int[][] bad = {{0, 0}, {100, 0}, {-1, 0}, {LEAST, 0}, {MOST, 0}, {1, 1}, {1, 99}, {1, 10000}, {1, -1},
                {1, -100}, {1, LEAST}, {1, MOST}, {0, 1}, {100, 10000}};
            for (int[] one : bad) {
                String name = "rules(" + one[0] + ", " + one[1] + ")";
                s.refused(name, Sentences::rich, y -> y.rules(one[0], one[1]), BAD);
            }
        });
        s.holds("RULED: RATE, WRAP are others.", () -> {
            MilesKept x = s.told("r0 90 9;r1 10 1;oc;p1cd;");
            x.type('r');
            s.due("WRAP alone", x.rules(20, 100), 20);
            s.counts(x, 2, 1, 20, 100, 2, 1);
            s.first(x, "turned", "1,90,0 1,110,0");
            s.due("RATE alone", x.rules(19, 100), 19);
            s.first(x, "turned and SLIPPED", "1,90,0 2,106,0");
            s.due("none again", x.rules(20, 0), 18);
            s.first(x, "no WRAP", "1,90,0 0,-9,1");
            s.due("the same again", x.rules(20, 0), 18);
            s.due("now(7)", x.now(7), 4);
        });
    }

    // ---- promise 12

    private static void undoing() {
        s.holds("UNDONE: how many more may be. STATE: none.", () -> {
            s.refused("undo() of a new one", MilesKept::new, MilesKept::undo, STATE);
            s.refused("undo() of one just told", DeedEdgesTest::justTold, MilesKept::undo, STATE);
            s.refused("undo() of one just brought back", DeedEdgesTest::justBack, MilesKept::undo, STATE);
            MilesKept x = Sentences.rich();
            s.due("undo() of three", x.undo(), 2);
            s.readings(x, 1, 100, 160, 130, 200, 90);
            s.due("undo() of two", x.undo(), 1);
            s.counts(x, 5, 3, 15, 500, 1, 3);
            s.due("undo() of one", x.undo(), 0);
            s.readings(x, 1, 100, 160, 130, 90);
            s.due("undo() of none", x.undo(), STATE);
        });
        s.holds("UNDONE: the latest adds(), strikes(), rules() that was not refused", () -> {
            MilesKept x = s.told("r1 10 1;r1 20 2;r1 30 3;");
            x.strikes(1);
            x.strikes(5);
            x.adds(0, 0, 0);
            x.rules(0, 0);
            x.keep(0);
            x.type('r');
            x.house();
            x.clear();
            s.due("now(7) behind what is refused or no deed", x.now(7), 1);
            s.due("undo()", x.undo(), 0);
            // What was STRUCK comes back between those of its DAY, not behind them.
            s.readings(x, 1, 10, 20, 30);
            s.readings(x, 2, 1, 2, 3);
            s.due("an undo() can't be UNDONE", x.undo(), STATE);
            x.adds(0, 0, 1);
            x.undo();
            x.adds(2, 40, 4);
            s.due("another one behind undo()", x.undo(), 0);
            s.readings(x, 1, 10, 20, 30);
            s.due("all as it was: now(0)", x.now(0), s.told("r1 10 1;r1 20 2;r1 30 3;").now(0));
        });
        s.holds("(10 are known, older ones are lost)", () -> {
            MilesKept ten = rulesUpTo(10);
            for (int left = 9; left >= 0; left--) s.due("undo() of ten", ten.undo(), left);
            s.due("RATE behind ten", ten.count(2), 20);
            s.due("undo() behind ten", ten.undo(), STATE);
            MilesKept eleven = rulesUpTo(11);
            s.due("now(7) of eleven", eleven.now(7), 10);
            for (int left = 9; left >= 0; left--) {
                s.due("undo() of eleven", eleven.undo(), left);
                s.due("RATE", eleven.count(2), left + 1);
            }
            s.due("undo() of what is lost", eleven.undo(), STATE);
            s.due("RATE of what is lost", eleven.count(2), 1);
            MilesKept many = rulesUpTo(35);
            for (int i = 0; i < 4; i++) many.undo();
            for (int rate = 50; rate < 56; rate++) many.rules(rate, 0);
            s.due("now(7) of 35, less 4 and 6", many.now(7), 10);
            int[] rates = {54, 53, 52, 51, 50, 31, 30, 29, 28, 27};
            for (int i = 0; i < 10; i++) {
                s.due("undo() of many", many.undo(), 9 - i);
                s.due("RATE of many", many.count(2), rates[i]);
            }
            s.due("undo() of many, behind all", many.undo(), STATE);
        });
    }

    private static MilesKept rulesUpTo(int rate) {
        MilesKept x = new MilesKept();
        for (int i = 1; i <= rate; i++) x.rules(i, 0);
        return x;
    }

    private static MilesKept justTold() {
        MilesKept x = new MilesKept();
        x.adds(1, 2, 3);
        Sentences.tell(x, "r1 2 3;r4 5 6;");
        return x;
    }

    private static MilesKept justBack() {
        MilesKept x = Sentences.rich();
        x.back(0);
        return x;
    }

    // ---- promises 16 and 17

    private static void keeping() {
        s.holds("An IMAGE is kept: READINGS. BAD.", () -> {
            MilesKept x = new MilesKept();
            s.due("keep(0) of none", x.keep(0), 0);
            x.adds(1, 2, 3);
            s.due("keep(1) of one", x.keep(1), 1);
            s.due("back(0) of none", x.back(0), 0);
            s.due("back(1) of one", x.back(1), 1);
            s.due("keep(1) of ten", Sentences.fullOfReadings().keep(1), 10);
            for (int image : new int[] {-1, 2, LEAST, MOST}) {
                s.refused("keep(" + image + ")", Sentences::rich, y -> y.keep(image), BAD);
            }
        });
        s.holds("IMAGES 0, 1 keep READINGS, RATE, WRAP; nothing else", () -> {
            MilesKept x = s.told("r5 10 1;r5 20 2;f30;w500;oc;p5cd;p6de;");
            x.type('r');
            x.keep(1);
            s.due("now(7) behind keep()", x.now(7), 0);
            x.strikes(0);
            x.rules(40, 600);
            x.adds(0, 0, 1);
            s.due("now(7) is not kept", x.now(7), 3);
            x.type('1');
            s.due("back(1)", x.back(1), 2);
            s.counts(x, 2, 2, 30, 500, 2, 2);
            s.readings(x, 1, 10, 20);
            s.readings(x, 2, 1, 2);
            s.changes(x, 3, 1, 1);
            s.due("plate(999)", x.plate(999), 4);
            // What comes behind keep() does not reach the IMAGE; a later keep() does.
            x.strikes(1);
            s.due("back(1) again", x.back(1), 2);
            x.strikes(1);
            s.due("keep(1) again", x.keep(1), 1);
            x.undo();
            s.due("back(1) of the later IMAGE", x.back(1), 1);
            s.due("back(0) is none yet", x.back(0), STATE);
        });
    }

    private static void goingBack() {
        s.holds("All of that becomes as an IMAGE has it: READINGS.", () -> {
            MilesKept x = Sentences.rich();
            s.due("back(0)", x.back(0), 4);
            s.counts(x, 4, 3, 15, 500, 1, 3);
            s.readings(x, 1, 100, 160, 130, 90);
            s.due("back(1)", x.back(1), 5);
            s.counts(x, 5, 3, 17, 600, 1, 3);
            s.readings(x, 1, 100, 160, 130, 200, 90);
            MilesKept y = s.told("r0 1000 9;r1 1020 1;");
            y.keep(0);
            y.adds(0, 1000, 5);
            y.rules(1, 0);
            s.nows(y, 28, 2, 3, 3);
            s.odds(y, 5, 28, 1, 4);
            s.due("back(0)", y.back(0), 2);
            s.nows(y, 20, 2, 3, 3);
            s.first(y, "the IMAGE", "1,1000,0 1,1020,0");
            s.odds(y, 5, 20, 1, 4);
            s.odds(y, 5, 21, 0, 1);
            s.due("on(0, 1)", y.on(0, 1), 1000);
        });
        s.holds("(nothing can be UNDONE behind back())", () -> {
            MilesKept x = Sentences.rich();
            s.due("now(7) ahead of back()", x.now(7), 3);
            x.back(1);
            s.due("now(7)", x.now(7), 0);
            s.due("undo()", x.undo(), STATE);
            x.strikes(0);
            s.due("undo() of what came then", x.undo(), 0);
            s.due("undo() behind that", x.undo(), STATE);
            s.due("count(0)", x.count(0), 5);
        });
        s.holds("READINGS. BAD; STATE: none was kept.", () -> {
            for (int image : new int[] {-1, 2, LEAST, MOST}) {
                s.refused("back(" + image + ")", Sentences::rich, x -> x.back(image), BAD);
                s.refused("back(" + image + ") of no IMAGE", MilesKept::new, x -> x.back(image), BAD);
            }
            s.refused("back(0) of no IMAGE", MilesKept::new, x -> x.back(0), STATE);
            s.refused("back(1) of no IMAGE", MilesKept::new, x -> x.back(1), STATE);
            s.refused("back(0), only 1 was kept", Sentences::fullOfReadings, x -> x.back(0), STATE);
            MilesKept x = Sentences.rich();
            x.back(0);
            x.back(1);
            s.due("an IMAGE stays behind back()", x.back(0), 4);
            x.undo();
            s.due("an IMAGE stays behind undo()", x.back(1), 5);
        });
    }

    // ---- promise 18

    private static void counting() {
        s.holds("0 READINGS, 1 CHANGES, 2 RATE, 3 WRAP, 4 START (0 a ..), 5 letters of THE TEXT. BAD.", () -> {
            s.counts(new MilesKept(), 0, 0, 20, 0, 0, 0);
            MilesKept x = s.told("r0 0 1;".repeat(10) + "p0ab;".repeat(6) + "f99;w9999;oh;");
            s.counts(x, 10, 6, 99, 9999, 7, 0);
            Sentences.write(x, " ".repeat(120));
            s.due("count(5) of 120", x.count(5), 120);
            x.type(' ');
            s.due("count(5) behind FULL", x.count(5), 120);
            for (int what : new int[] {-1, 6, LEAST, MOST}) {
                s.refused("count(" + what + ")", Sentences::rich, y -> y.count(what), BAD);
            }
        });
    }

    private static void refusing() {
        s.holds("Refused, and nothing changes, the first of these: BAD (a number is not as told, or there is no such"
            + " thing), STATE (as told), FULL.", () -> {
            s.due("BAD, not FULL: type()", fullText().type(256), BAD);
            s.due("BAD, not FULL: adds()", Sentences.fullOfReadings().adds(0, 0, 10), BAD);
            s.due("BAD, not STATE: back()", new MilesKept().back(2), BAD);
            s.due("BAD, not NONE: on()", new MilesKept().on(0, 2), BAD);
            s.due("no such READING", new MilesKept().reading(0, 3), BAD);
            s.due("no such CHANGE", new MilesKept().change(0, 3), BAD);
            s.changesNothing("many refused calls", Sentences::rich, x -> {
                x.type(256);
                x.house();
                x.adds(0, 0, 0);
                x.strikes(4);
                x.rules(0, 0);
                x.keep(2);
                x.back(-1);
                x.on(1000, 0);
                x.plate(1000);
                x.odds(11, 0, 0);
            });
        });
    }

    private static MilesKept fullText() {
        MilesKept x = new MilesKept();
        Sentences.write(x, " ".repeat(120));
        return x;
    }
}
