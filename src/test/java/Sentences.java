import java.io.IOException;
import java.nio.file.Files;
import java.nio.file.Path;
import java.util.function.Consumer;
import java.util.function.Supplier;

/** Tests of single sentences: each bears the document's own words, so that it can be seen which ones are held. */
final class Sentences {
    static final int BAD = -1, STATE = -2, FULL = -3, NONE = -9;
    private static final Path DOCUMENT = Path.of("../shared/DOC.md");

    interface Test {
        void run();
    }

    interface Call {
        long on(MilesKept x);
    }

    private final Check check;
    private final String document;
    private String words = "";

    Sentences(String test) throws IOException {
        check = new Check(test);
        document = Files.exists(DOCUMENT) ? oneLine(Files.readString(DOCUMENT)) : null;
    }

    private static String oneLine(String text) {
        return text.replaceAll("\\s+", " ");
    }

    void holds(String someWords, Test test) {
        words = someWords;
        check.holds("the document says '" + words + "'", document == null || document.contains(oneLine(words)));
        test.run();
    }

    void end() {
        check.end();
    }

    void due(String call, long got, long want) {
        check.due("'" + words + "': " + call, got, want);
    }

    void same(String what, String got, String want) {
        check.holds("'" + words + "': " + what + " is " + got + ", due is " + want, got.equals(want));
    }

    // ---- objects

    static void write(MilesKept x, String text) {
        for (int i = 0; i < text.length(); i++) {
            x.type(text.charAt(i));
        }
    }

    static int tell(MilesKept x, String text) {
        write(x, text);
        return x.house();
    }

    MilesKept told(String text) {
        MilesKept x = new MilesKept();
        int items = tell(x, text);
        check.holds("'" + words + "': '" + text + "' has no FAULT (" + items + ")", items >= 0);
        return x;
    }

    /** One with something of everything: READINGS, CHANGES, two IMAGES, three to be UNDONE, a begun text. */
    static MilesKept rich() {
        MilesKept x = new MilesKept();
        tell(x, "r0 100 3;r2 160 2;r2 130 5;r9 90 1;f15;w500;ob;p3 b c;p3 c d;p8 a b;");
        x.keep(0);
        x.adds(5, 200, 4);
        x.rules(17, 600);
        x.keep(1);
        x.strikes(1);
        write(x, "r1 ");
        return x;
    }

    static MilesKept fullOfReadings() {
        MilesKept x = new MilesKept();
        tell(x, "r1 1 1;".repeat(8) + "oc;p5cd;");
        x.keep(1);
        x.adds(2, 2, 2);
        x.adds(3, 3, 3);
        return x;
    }

    // ---- answers side by side

    void fault(String text, int place) {
        due("house() of '" + text + "'", tell(new MilesKept(), text), -10 - place);
    }

    void items(String text, int items) {
        due("house() of '" + text + "'", tell(new MilesKept(), text), items);
    }

    void counts(MilesKept x, int... want) {
        for (int what = 0; what < want.length; what++) {
            due("count(" + what + ")", x.count(what), want[what]);
        }
    }

    void nows(MilesKept x, int... want) {
        for (int what = 0; what < want.length; what++) {
            due("now(" + what + ")", x.now(what), want[what]);
        }
    }

    /** One number of all READINGS, in their order. */
    void readings(MilesKept x, int what, int... want) {
        due("count(0)", x.count(0), want.length);
        for (int k = 0; k < want.length; k++) {
            due("reading(" + k + ", " + what + ")", x.reading(k, what), want[k]);
        }
    }

    void changes(MilesKept x, int what, int... want) {
        due("count(1)", x.count(1), want.length);
        for (int k = 0; k < want.length; k++) {
            due("change(" + k + ", " + what + ")", x.change(k, what), want[k]);
        }
    }

    /** How each READING is in THE FIRST, its FAR, its REASON. */
    void first(String text, String want) {
        first(told(text), text, want);
    }

    void first(MilesKept x, String name, String want) {
        StringBuilder got = new StringBuilder();
        for (int k = 0; k < x.count(0); k++) {
            got.append(k == 0 ? "" : " ").append(x.reading(k, 3));
            got.append(',').append(x.reading(k, 4)).append(',').append(x.reading(k, 5));
        }
        same("THE FIRST of '" + name + "'", got.toString(), want);
    }

    void odds(MilesKept x, int by, int g, long upper, long lower) {
        due("odds(" + by + ", " + g + ", 0)", x.odds(by, g, 0), upper);
        due("odds(" + by + ", " + g + ", 1)", x.odds(by, g, 1), lower);
    }

    // ---- nothing changes

    /** The call answers so, and its object stays like one of the same making that was not called. */
    void refused(String name, Supplier<MilesKept> make, Call call, long want) {
        MilesKept called = make.get();
        due(name, call.on(called), want);
        same("all behind " + name, all(called), all(make.get()));
    }

    void changesNothing(String name, Supplier<MilesKept> make, Consumer<MilesKept> calls) {
        MilesKept called = make.get();
        calls.accept(called);
        same("all behind " + name, all(called), all(make.get()));
    }

    /** All that can be seen of an object, what can be UNDONE and IMAGES too; some 200 calls. */
    static String all(MilesKept x) {
        StringBuilder seen = new StringBuilder();
        for (int what = 0; what < 6; what++) seen.append(x.count(what)).append(' ');
        for (int what = 0; what < 8; what++) seen.append(x.now(what)).append(' ');
        seen.append(x.rivals()).append(" |");
        for (int k = 0; k < x.count(0); k++) {
            for (int what = 0; what < 6; what++) seen.append(x.reading(k, what)).append(' ');
        }
        for (int k = 0; k < x.count(1); k++) {
            for (int what = 0; what < 4; what++) seen.append(x.change(k, what)).append(' ');
        }
        for (int day : new int[] {0, 3, 7, 999}) {
            seen.append(x.on(day, 0)).append(' ').append(x.on(day, 1)).append(' ').append(x.plate(day)).append(' ');
        }
        for (int g = 2; g < 20; g += 5) seen.append(x.odds(3, g, 0)).append('/').append(x.odds(3, g, 1)).append(' ');
        for (int i = 0; i < 11; i++) seen.append(" undo ").append(x.undo()).append(few(x));
        for (int i = 0; i < 2; i++) seen.append(" back ").append(x.back(i)).append(few(x));
        return seen.append(" house ").append(x.house()).append(few(x)).toString();
    }

    private static String few(MilesKept x) {
        return ":" + x.count(0) + "," + x.count(2) + "," + x.count(3) + "," + x.now(0) + "," + x.reading(1, 1);
    }
}
