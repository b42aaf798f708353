import java.util.Random;

/** Runs of 512 calls at most, drawn from fixed seeds, each answer held against the Oracle's. */
public final class RandomRunsTest {
    private static final int RUNS = 400;
    private static final int CALLS = 512;

    private final Check check;
    private final Random random;
    private final String run;
    private final MilesKept house = new MilesKept();
    private final Oracle oracle = new Oracle();
    private final int days;
    private final int counts;
    private final int worths;
    private int calls;

    private RandomRunsTest(Check check, int seed) {
        this.check = check;
        random = new Random(seed);
        run = "seed " + seed + ", ";
        days = pick(1, 4, 30, 1000);
        counts = pick(1, 6, 100, 700, 10000);
        worths = pick(1, 2, 9);
    }

    public static void main(String[] args) {
        Check check = new Check("RandomRunsTest");
        int runs = args.length > 0 ? Integer.parseInt(args[0]) : RUNS;
        int first = args.length > 1 ? Integer.parseInt(args[1]) : 1;
        for (int seed = first; seed < first + runs && check.isClean(); seed++) {
            new RandomRunsTest(check, seed).play();
        }
        check.end();
    }

    private int pick(int... some) {
        return some[random.nextInt(some.length)];
    }

    private void due(String call, long got, long want) {
        calls++;
        check.due(run + "call " + calls + ": " + call, got, want);
    }

    /** Now and then one beyond the edges. */
    private int within(int least, int most) {
        int kind = random.nextInt(40);
        if (kind == 0) return least - 1;
        if (kind == 1) return most + 1;
        if (kind == 2) return least;
        if (kind == 3) return most;
        if (kind == 4 && random.nextInt(10) == 0) return pick(Integer.MIN_VALUE, Integer.MAX_VALUE);
        return least + random.nextInt(most - least + 1);
    }

    private void play() {
        if (random.nextInt(3) > 0) tell();
        while (calls < CALLS - 140 && check.isClean()) {
            step();
        }
    }

    private void step() {
        int kind = random.nextInt(24);
        if (kind < 6) add();
        else if (kind < 8) strike();
        else if (kind < 10) rule();
        else if (kind < 12) due("undo()", house.undo(), oracle.undo());
        else if (kind == 12) keep();
        else if (kind == 13) back();
        else if (kind == 14 && random.nextInt(3) == 0) tell();
        else if (kind == 15 && random.nextInt(8) == 0) odds();
        else if (kind < 18) days();
        else if (kind == 18) counts();
        else look();
    }

    private void add() {
        int day = random.nextInt(30) == 0 ? within(0, 999) : random.nextInt(days);
        int count = random.nextInt(30) == 0 ? within(0, 9999) : random.nextInt(counts);
        int worth = random.nextInt(30) == 0 ? within(1, 9) : 1 + random.nextInt(worths);
        due("adds(" + day + ", " + count + ", " + worth + ")",
            house.adds(day, count, worth), oracle.adds(day, count, worth));
    }

    private void strike() {
        int k = random.nextInt(4) == 0 ? within(0, 9) : random.nextInt(3);
        due("strikes(" + k + ")", house.strikes(k), oracle.strikes(k));
    }

    private void rule() {
        int rate = random.nextInt(3) == 0 ? within(1, 99) : pick(1, 5, 20, 99);
        int wrap = random.nextInt(3) == 0 ? within(100, 9999) : pick(0, 100, 150, 700, 9999);
        due("rules(" + rate + ", " + wrap + ")", house.rules(rate, wrap), oracle.rules(rate, wrap));
    }

    private void keep() {
        int image = within(0, 1);
        due("keep(" + image + ")", house.keep(image), oracle.keep(image));
    }

    private void back() {
        int image = within(0, 1);
        due("back(" + image + ")", house.back(image), oracle.back(image));
    }

    private void odds() {
        int x = within(0, 10);
        int g = random.nextBoolean() ? within(0, 180) : random.nextInt(1 + Math.max(0, oracle.now(0)) + 1);
        for (int what = 0; what < 2; what++) {
            due("odds(" + x + ", " + g + ", " + what + ")", house.odds(x, g, what), oracle.odds(x, g, what));
        }
    }

    private void days() {
        int day = random.nextInt(3) == 0 ? within(0, 999) : random.nextInt(days);
        int what = within(0, 1);
        due("on(" + day + ", " + what + ")", house.on(day, what), oracle.on(day, what));
        due("plate(" + day + ")", house.plate(day), oracle.plate(day));
    }

    private void counts() {
        for (int what = -1; what <= 6; what++) {
            due("count(" + what + ")", house.count(what), oracle.count(what));
        }
    }

    private void look() {
        int kind = random.nextInt(4);
        int what = within(0, 7);
        int k = within(0, 9);
        if (kind == 0) {
            due("now(" + what + ")", house.now(what), oracle.now(what));
        } else if (kind == 1) {
            due("rivals()", house.rivals(), oracle.rivals());
        } else if (kind == 2) {
            for (int of = -1; of <= 6; of++) {
                due("reading(" + k + ", " + of + ")", house.reading(k, of), oracle.reading(k, of));
            }
        } else {
            for (int of = -1; of <= 4; of++) {
                due("change(" + k + ", " + of + ")", house.change(k, of), oracle.change(k, of));
            }
        }
    }

    private void tell() {
        if (calls + 130 > CALLS) return;
        String text = text();
        for (int i = 0; i < text.length(); i++) {
            char letter = text.charAt(i);
            due("type(" + (int) letter + ")", house.type(letter), oracle.type(letter));
        }
        if (random.nextInt(20) == 0) due("type(256)", house.type(256), oracle.type(256));
        due("house() of '" + text + "'", house.house(), oracle.house());
        if (random.nextInt(3) == 0) due("clear()", house.clear(), oracle.clear());
    }

    private String text() {
        StringBuilder text = new StringBuilder();
        int items = random.nextInt(14);
        boolean faulty = random.nextInt(4) == 0;
        String told = "";
        for (int i = 0; i < items && text.length() < 125; i++) {
            char head = "rrrrrrrppppfwo".charAt(random.nextInt(14));
            if (!faulty && "fwo".indexOf(head) >= 0 && told.indexOf(head) >= 0) head = 'r';
            told += head;
            String item = item(head);
            if (!faulty && text.length() + item.length() > 120) break;
            text.append(item);
        }
        if (faulty) spoil(text);
        return text.length() > 125 ? text.substring(0, 125) : text.toString();
    }

    private String item(char head) {
        String blank = random.nextInt(5) == 0 ? " " : "";
        int was = random.nextInt(3);
        int then = random.nextInt(40) == 0 ? was : (was + 1 + random.nextInt(2)) % 3;
        String body = switch (head) {
            case 'r' -> random.nextInt(days) + " " + random.nextInt(counts) + " " + (1 + random.nextInt(worths));
            case 'p' -> random.nextInt(days) + blank + (char) ('a' + was) + blank + (char) ('a' + then);
            case 'f' -> "" + within(1, 99);
            case 'w' -> "" + (random.nextInt(3) == 0 ? 0 : within(100, 9999));
            default -> "" + (char) ('a' + within(0, 2));
        };
        return blank + head + blank + body + blank + ";" + (random.nextInt(10) == 0 ? " " : "");
    }

    private void spoil(StringBuilder text) {
        int times = 1 + random.nextInt(2);
        for (int i = 0; i < times && text.length() > 0; i++) {
            int at = random.nextInt(text.length());
            String signs = "rfwop;0123456789 abhiz{`/:A\t\u0000\u00e9\u00ff";
            char sign = signs.charAt(random.nextInt(signs.length()));
            int kind = random.nextInt(4);
            if (kind == 0) text.deleteCharAt(at);
            else if (kind == 1) text.insert(at, sign);
            else if (kind == 2) text.setCharAt(at, sign);
            else text.setLength(at);
        }
    }
}
