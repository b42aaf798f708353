import java.io.IOException;

/** The sentences about a new object and THE TEXT (promises 1 to 4), each with its edges. */
public final class TextEdgesTest {
    private static final int BAD = Sentences.BAD, STATE = Sentences.STATE, FULL = Sentences.FULL,
        NONE = Sentences.NONE;
    private static Sentences s;

    public static void main(String[] args) throws IOException {
        s = new Sentences("TextEdgesTest");
        newObject();
        manyCalls();
        typing();
        clearing();
        readingsOfTheText();
        rulesOfTheText();
        changesOfTheText();
        blanksAndItems();
        tokens();
        numbers();
        early();
        house();
        s.end();
    }

    // ---- promise 1

    private static void newObject() {
        s.holds("As told; no READINGS, no CHANGES.", () -> {
            MilesKept x = new MilesKept();
            s.counts(x, 0, 0, 20, 0, 0, 0);
            s.nows(x, 0, 0, 0, 0, NONE, NONE, 0, 0);
            s.due("reading(0, 0)", x.reading(0, 0), BAD);
            s.due("change(0, 0)", x.change(0, 0), BAD);
            s.due("strikes(0)", x.strikes(0), BAD);
            s.due("undo()", x.undo(), STATE);
            s.due("back(0)", x.back(0), STATE);
            s.due("back(1)", x.back(1), STATE);
        });
        s.holds("RATE (1 .. 99; 20 at first)", () -> {
            MilesKept x = new MilesKept();
            x.adds(0, 1000, 9);
            x.adds(1, 1020, 1);
            s.first(x, "20 in a day", "1,1000,0 1,1020,0");
            x.strikes(1);
            x.adds(1, 1021, 1);
            s.first(x, "21 in a day", "1,1000,0 0,-9,2");
        });
        s.holds("WRAP (0: none, at first; else 100 .. 9999)", () -> {
            MilesKept x = new MilesKept();
            x.adds(0, 1000, 9);
            x.adds(999, 0, 1);
            s.first(x, "no turn at first", "1,1000,0 0,-9,1");
            x.rules(20, 9999);
            s.first(x, "the greatest WRAP", "1,1000,0 1,9999,0");
            s.due("rules(20, 10000)", x.rules(20, 10000), BAD);
            x.rules(20, 334);
            s.first(x, "three turns", "1,1000,0 1,1002,0");
            x.rules(20, 100);
            s.first(x, "the least WRAP", "1,1000,0 0,-9,1");
            s.due("rules(20, 99)", x.rules(20, 99), BAD);
            s.due("WRAP", x.count(3), 100);
        });
        s.holds("The plate ahead of all is START (a at first).", () -> {
            MilesKept x = new MilesKept();
            s.due("count(4)", x.count(4), 0);
            s.due("plate(0)", x.plate(0), 0);
            s.due("plate(999)", x.plate(999), 0);
            s.due("plate(0) ahead of all", s.told("oh;p1ha;").plate(0), 7);
        });
    }

    private static void manyCalls() {
        s.holds("An object is used for at most 512 calls after it has been made", () -> {
            MilesKept x = new MilesKept();
            for (int i = 0; i < 102; i++) {
                s.due("adds()", x.adds(i, i, 1), 0);
                s.due("keep()", x.keep(1), 1);
                s.due("rules()", x.rules(1 + i % 99, 100 + i), 2);
                s.due("strikes()", x.strikes(0), 0);
                s.due("odds()", x.odds(5, 0, 1), 1);
            }
            s.due("call 511", x.back(1), 1);
            s.due("call 512", x.reading(0, 1), 101);
        });
    }

    // ---- promises 2 and 3

    private static void typing() {
        s.holds("A letter (0 .. 255) comes to THE TEXT: how many it has.", () -> {
            MilesKept x = new MilesKept();
            for (int letter = 0; letter <= 255; letter++) {
                s.due("type(" + letter + ")", x.type(letter), letter % 100 + 1);
                if (letter % 100 == 99) x.clear();
            }
        });
        s.holds("int type(int letter)`: A letter (0 .. 255) comes to THE TEXT: how many it has. BAD", () -> {
            for (int letter : new int[] {-1, 256, -256, 512 + 'r', Integer.MIN_VALUE, Integer.MAX_VALUE}) {
                s.refused("type(" + letter + ")", Sentences::rich, x -> x.type(letter), BAD);
            }
        });
        s.holds("They are a text (120 letters at most), told letter by letter", () -> {
            MilesKept x = new MilesKept();
            for (int i = 1; i <= 119; i++) x.type(' ');
            s.due("the 120th letter", x.type('x'), 120);
            s.due("house() reads the 120th letter", x.house(), -10 - 119);
            String full = "r0 0 1;".repeat(10) + "p0ab;".repeat(6) + "f20;w100;oa;" + " ".repeat(7) + ";";
            s.due("length", full.length(), 120);
            s.items(full.substring(0, 119), 19);
            s.fault(full, 119);
        });
        s.holds("how many it has. BAD; FULL.", () -> {
            s.refused("type(32) of 120", () -> longText(120), x -> x.type(' '), FULL);
            s.refused("type(255) of 120", () -> longText(120), x -> x.type(255), FULL);
            s.refused("type(256) of 120", () -> longText(120), x -> x.type(256), BAD);
            s.refused("type(-1) of 120", () -> longText(120), x -> x.type(-1), BAD);
            MilesKept x = longText(120);
            x.type(' ');
            x.clear();
            s.due("type() when there is room again", x.type(' '), 1);
            MilesKept y = longText(120);
            s.due("house() of a full text", y.house(), 1);
            s.due("type() behind house()", y.type(' '), 1);
        });
    }

    private static MilesKept longText(int letters) {
        MilesKept x = new MilesKept();
        Sentences.write(x, "f" + " ".repeat(letters - 3) + "7;");
        return x;
    }

    private static void clearing() {
        s.holds("THE TEXT is empty: how many letters it had.", () -> {
            MilesKept x = new MilesKept();
            s.due("clear() of none", x.clear(), 0);
            x.type('f');
            s.due("clear() of one", x.clear(), 1);
            s.due("clear() again", x.clear(), 0);
            s.due("count(5)", x.count(5), 0);
            s.due("house() of what is left", x.house(), 0);
            MilesKept full = longText(120);
            s.due("clear() of 120", full.clear(), 120);
            s.due("RATE of the cleared text", full.count(2), 20);
            s.due("house() behind clear()", Sentences.tell(full, "f9;"), 1);
            s.due("RATE of the new text", full.count(2), 9);
            MilesKept rich = Sentences.rich();
            s.due("clear() of a begun text", rich.clear(), 3);
            Sentences.write(rich, "r1 ");
            s.same("all else", Sentences.all(rich), Sentences.all(Sentences.rich()));
        });
    }

    // ---- READINGS in THE TEXT

    private static void readingsOfTheText() {
        s.holds("READINGS (10 at most)", () -> {
            MilesKept x = s.told("r9 0 1;r8 0 1;r7 0 1;r6 0 1;r5 0 1;r4 0 1;r3 0 1;r2 0 1;r1 0 1;r0 9 1;");
            s.readings(x, 0, 0, 1, 2, 3, 4, 5, 6, 7, 8, 9);
        });
        s.holds("an eleventh r", () -> {
            String ten = "r0 0 1;".repeat(10);
            s.items(ten, 10);
            s.fault(ten + "r0 0 1;", 70);
            s.fault(ten + "r", 70);
            s.fault(ten + "  r x", 72);
            s.fault(ten + "f1;r0 0 1;", 73);
            s.fault(ten + "r1000 0 1;", 70);
            s.fault(ten.substring(7) + "r1000 0 1;", 64);
        });
        s.holds("each with a DAY (0 ..", () -> {
            s.readings(s.told("r0 5 5;"), 0, 0);
            s.fault("r-1 5 5;", 1);
            s.fault("r;", 1);
        });
        s.holds("999), a COUNT (0 .. 9999), WORTH (1 .. 9)", () -> {
            s.readings(s.told("r999 5 5;"), 0, 999);
            s.fault("r1000 5 5;", 1);
            s.fault("r 9999 5 5;", 2);
            s.readings(s.told("r5 0 5;r6 9999 5;"), 1, 0, 9999);
            s.fault("r5 10000 5;", 3);
            s.fault("r5 -1 5;", 3);
            s.readings(s.told("r5 5 1;r6 5 9;"), 2, 1, 9);
            s.fault("r5 5 0;", 5);
            s.fault("r5 5 10;", 5);
            s.fault("r5 5;", 4);
        });
        s.holds("they are numbered 0, 1, .. by DAYS, of one DAY as they were told", () -> {
            MilesKept x = s.told("r7 1 1;r7 2 1;r3 3 1;r999 4 1;r7 5 1;r0 6 1;r3 7 1;r999 8 1;r0 9 1;");
            s.readings(x, 1, 6, 9, 3, 7, 1, 2, 5, 4, 8);
            s.readings(x, 0, 0, 0, 3, 3, 7, 7, 7, 999, 999);
            s.readings(s.told("r4 3 1;r4 1 2;r4 2 3;"), 1, 3, 1, 2);
        });
    }

    private static void rulesOfTheText() {
        s.holds("f N (RATE)", () -> {
            s.due("f1", s.told("f1;").count(2), 1);
            s.due("f99", s.told("f99;").count(2), 99);
            s.fault("f0;", 1);
            s.fault("f100;", 1);
            s.fault("f 9999;", 2);
            s.fault("f;", 1);
        });
        s.holds("w N (WRAP)", () -> {
            s.due("w0", s.told("w0;").count(3), 0);
            s.due("w100", s.told("w100;").count(3), 100);
            s.due("w9999", s.told("w9999;").count(3), 9999);
            s.fault("w1;", 1);
            s.fault("w99;", 1);
            s.fault("w 99;", 2);
            s.fault("w10000;", 1);
            s.fault("w;", 1);
            s.fault("wa;", 1);
        });
        s.holds("o A (START; once at most each)", () -> {
            s.due("oa", s.told("oa;").count(4), 0);
            s.due("oh", s.told("oh;").count(4), 7);
            s.fault("oi;", 1);
            s.fault("oz;", 1);
            s.fault("o`;", 1);
            s.fault("o0;", 1);
            s.fault("oA;", 1);
            s.items("f1;w0;oa;", 3);
            s.items("o h ; w 100 ; f 99 ;", 3);
        });
        s.holds("f, w, o again", () -> {
            s.fault("f1;f1;", 3);
            s.fault("f20;r0 0 1; f", 12);
            s.fault("f1;w0;oa;f1;", 9);
            s.fault("w0;w100;", 3);
            s.fault("w100;w0;", 5);
            s.fault("w0;f1;oa;w0;", 9);
            s.fault("oa;oa;", 3);
            s.fault("oa;f1;w0;oh;", 9);
            // What one text told does not keep the next one from telling it.
            MilesKept x = s.told("f1;w100;ob;");
            s.due("house() of the next text", Sentences.tell(x, "f2;w200;oc;"), 3);
            s.counts(x, 0, 0, 2, 200, 2, 0);
        });
    }

    // ---- CHANGES in THE TEXT

    private static void changesOfTheText() {
        s.holds("CHANGES (6 at most) of plates", () -> {
            MilesKept x = s.told("p6ab;p5ab;p4ab;p3ab;p2ab;p1ab;");
            s.changes(x, 0, 1, 2, 3, 4, 5, 6);
        });
        s.holds("a seventh p", () -> {
            String six = "p0ab;".repeat(6);
            s.items(six + "r0 0 1;", 7);
            s.fault(six + "p0ab;", 30);
            s.fault(six + " p", 31);
            s.fault(six + "p1000ab;", 30);
            s.fault(six + "f1;p0aa;", 33);
            s.fault(six.substring(5) + "p0aa;", 28);
        });
        s.holds("each with a DAY, a plate (a .. h) that was, another one that is then", () -> {
            MilesKept x = s.told("p0ah;p999ha;");
            s.changes(x, 0, 0, 999);
            s.changes(x, 1, 0, 7);
            s.changes(x, 2, 7, 0);
            s.fault("p1000ab;", 1);
            s.fault("p9999ab;", 1);
            s.fault("p0ib;", 2);
            s.fault("p0`b;", 2);
            s.fault("p0bi;", 3);
            s.fault("p0b`;", 3);
            s.fault("p0a;", 3);
            s.fault("pab;", 1);
            s.fault("p0 1 a;", 3);
        });
        s.holds("numbered likewise", () -> {
            MilesKept x = s.told("p7cd;p3ab;p7ef;p0gh;p3ba;p7ab;");
            s.changes(x, 0, 0, 3, 3, 7, 7, 7);
            s.changes(x, 1, 6, 0, 1, 2, 4, 0);
        });
        s.holds("B that is A", () -> {
            for (char plate = 'a'; plate <= 'h'; plate++) {
                s.fault("p0" + plate + plate + ";", 3);
                s.fault("p 0 " + plate + "  " + plate + ";", 7);
            }
            s.fault("p0ii;", 2);
        });
    }

    // ---- TOKENS

    private static void blanksAndItems() {
        s.holds("blanks (32) between TOKENS", () -> {
            s.items("", 0);
            s.items(" ", 0);
            s.items(" ".repeat(120), 0);
            s.items("  r  1  2  3  ;  p  0  a  b  ;  ", 2);
            s.items("r1 2 3;p0ab;f1;", 3);
            s.fault("r12 3;", 5);
            s.fault("r1 2 3 ; f 1 0 ;", 13);
            for (int letter : new int[] {0, 9, 10, 13, 31, 33, 160, 255}) {
                s.fault("r1" + (char) letter + "2 3;", 2);
            }
        });
        s.holds("ITEMS, each ended by ;", () -> {
            s.fault("r1 2 3f1;", 6);
            s.fault("f1w0;", 2);
            s.fault("w0oa;", 2);
            s.fault("oaf1;", 2);
            s.fault("p0abf1;", 4);
            s.fault("f1;;", 3);
            s.fault(";", 0);
            s.fault("  ;", 2);
            s.fault("r1 2 3", 6);
        });
        s.holds("r D C W (a READING)", () -> {
            s.fault("r1 2 3 4;", 7);
            s.fault("ra 2 3;", 1);
            s.fault("r1 b 3;", 3);
            s.fault("r1 2 c;", 5);
            s.fault("r1 2 3 c;", 7);
        });
        s.holds("p D A B (a CHANGE)", () -> {
            s.fault("p0abc;", 4);
            s.fault("p0ab1;", 4);
            s.fault("p;", 1);
            s.fault("p0;", 2);
        });
    }

    private static void tokens() {
        s.holds("TOKENS are letters a .. z (each by itself), NUMBERS and ;", () -> {
            s.fault("rr1 2 3;", 1);
            s.fault("ff1;", 1);
            s.fault("oab;", 2);
            for (char letter = 'a'; letter <= 'z'; letter++) {
                // A letter that begins an ITEM lacks its rest; of another one it is that letter's own place.
                s.fault(" " + letter, "rfwop".indexOf(letter) >= 0 ? 2 : 1);
            }
            s.fault("7", 0);
            s.fault("0;", 0);
        });
        s.holds("of any other letter", () -> {
            for (int letter = 0; letter <= 255; letter++) {
                boolean known = letter == ' ' || letter == ';' || letter >= '0' && letter <= '9'
                    || letter >= 'a' && letter <= 'z';
                if (known) continue;
                char sign = (char) letter;
                s.fault("f1; " + sign, 4);
                s.fault("r1 2 3" + sign, 6);
                s.fault("r1 2" + sign + "3;", 4);
                s.fault("o" + sign, 1);
                s.fault("p0a" + sign + ";", 3);
            }
            // The first TOKEN that can't stand counts, whichever kind of fault comes behind it.
            s.fault("r1 2;A", 4);
            s.fault("x A", 0);
            s.fault("A x", 0);
            s.fault("f1;f1?", 3);
        });
    }

    private static void numbers() {
        s.holds("a NUMBER beyond what it may be, too", () -> {
            s.fault("r1000 10000 10;", 1);
            s.fault("r999 10000 10;", 5);
            s.fault("r999 9999 10;", 10);
            s.fault("f1;f100;", 3);
            s.fault("f100;f1;", 1);
        });
        s.holds("a NUMBER above 9999", () -> {
            s.items("r0 9999 1;", 1);
            for (String number : new String[] {"10000", "10001", "99999", "100000", "65536", "65541", "2147483647",
                "2147483648", "4294967296", "4294967301", "18446744073709551617", "1" + "0".repeat(100)}) {
                s.fault("r0 " + number + " 1;", 3);
                s.fault("w" + number + ";", 1);
                s.fault("f1; " + number, 4);
            }
        });
        s.holds("or with a 0 ahead of others", () -> {
            s.items("r0 0 1;", 1);
            s.items("r0 10 1;r100 1000 9;", 2);
            s.fault("r00 0 1;", 1);
            s.fault("r01 0 1;", 1);
            s.fault("r0 00 1;", 3);
            s.fault("r0 0 01;", 5);
            s.fault("r0 09999 1;", 3);
            s.fault("f01;", 1);
            s.fault("w00;", 1);
            s.fault("w0100;", 1);
            s.fault("p00ab;", 1);
            s.fault("f1; 00", 4);
        });
    }

    private static void early() {
        s.holds("the text's length, if it ends too early", () -> {
            for (String item : new String[] {"r12 345 6;", "f78;", "w0;", "oc;", "p9ab;", "r 0 0 1 ;"}) {
                for (int length = 1; length < item.length(); length++) {
                    String text = item.substring(0, length);
                    s.fault(text, length);
                    s.fault(text + "   ", length + 3);
                    s.fault("p5gh;" + text, 5 + length);
                }
            }
            s.fault("r0 0 1" + " ".repeat(114), 120);
            s.fault(" ".repeat(119) + "r", 120);
            s.fault(" ".repeat(118) + "f1", 120);
            // What an earlier, longer text had at that place does not count.
            MilesKept x = new MilesKept();
            Sentences.write(x, "f12;");
            x.clear();
            s.due("house() of 'f1' behind 'f12;'", Sentences.tell(x, "f1"), -10 - 2);
            x.clear();
            s.due("house() of 'f' behind 'f1'", Sentences.tell(x, "f"), -10 - 1);
        });
        s.holds("FAULT: the place of the first letter of the first TOKEN that can't stand there", () -> {
            s.fault("x", 0);
            s.fault("   x", 3);
            s.fault("r0 0    1234;", 8);
            s.fault(" ".repeat(119) + "x", 119);
        });
    }

    // ---- promise 4

    private static void house() {
        s.holds("THE TEXT tells all anew, and is empty then: how many ITEMS.", () -> {
            MilesKept x = s.told("r1 2 3;f4;w500;og;p6gh;");
            s.counts(x, 1, 1, 4, 500, 6, 0);
            s.due("house() of one ITEM", Sentences.tell(x, "r7 8 9;"), 1);
            s.counts(x, 1, 0, 20, 0, 0, 0);
            s.readings(x, 0, 7);
            s.due("house() of none", x.house(), 0);
            s.counts(x, 0, 0, 20, 0, 0, 0);
            s.items("r0 0 1;".repeat(10) + "p0ab;".repeat(6) + "f1;w0;oa;", 19);
        });
        s.holds("-10 less FAULT: nothing changes.", () -> {
            // The rich one's text is begun as 'r1 '.
            s.refused("house() that ends too early", Sentences::rich, MilesKept::house, -10 - 3);
            MilesKept x = Sentences.rich();
            x.clear();
            s.due("house() of a FAULT at 0", Sentences.tell(x, "?"), -10);
            s.due("its text stays", x.count(5), 1);
            s.due("house() again", x.house(), -10);
            x.clear();
            s.due("house() of a late FAULT", Sentences.tell(x, "r9 9 9;f9;w999;oh;p9ha;;"), -10 - 23);
            s.due("its text stays", x.clear(), 24);
            Sentences.write(x, "r1 ");
            s.same("all else", Sentences.all(x), Sentences.all(Sentences.rich()));
            s.due("a FAULT that more letters mend", mended(), 1);
        });
        s.holds("(Read anew: as told, all else as at first, IMAGES are gone.)", () -> {
            MilesKept x = Sentences.rich();
            x.clear();
            x.house();
            s.same("all behind an empty text", Sentences.all(x), Sentences.all(new MilesKept()));
            MilesKept y = Sentences.rich();
            y.clear();
            Sentences.tell(y, "r3 4 5;");
            s.same("all behind another text", Sentences.all(y), Sentences.all(s.told("r3 4 5;")));
            String[] texts = {"r0 1000 9;r1 1000 9;r2 1000 9;p0ab;p0ab;p0cd;p0de;p0ef;p0fg;", "p1ab;p2ac;",
                "w100;f99;r0 60 9;r1 50 9;r2 40 9;r3 30 9;p0ab;p0bc;", "r0 60 1;r1 50 1;r2 70 2;p0ac;"};
            for (String before : texts) {
                for (String text : texts) {
                    MilesKept z = s.told(before);
                    z.odds(5, 5, 0);
                    Sentences.tell(z, text);
                    s.same("'" + text + "' behind '" + before + "'", Sentences.all(z), Sentences.all(s.told(text)));
                }
            }
        });
    }

    private static int mended() {
        MilesKept x = new MilesKept();
        Sentences.tell(x, "r1 2 3");
        x.type(';');
        return x.house();
    }
}
