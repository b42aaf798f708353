import java.math.BigInteger;
import java.util.ArrayList;
import java.util.List;

/**
 * The document said again as plainly as can be: every REPAIR is written out and looked at. It shares nothing with
 * MilesKept, so that the two can be held against each other.
 */
final class Oracle {
    static final int BAD = -1, STATE = -2, FULL = -3, NONE = -9;

    record Reading(int day, int count, int worth) { }

    record Change(int day, int was, int then) { }

    record House(List<Reading> readings, int rate, int wrap) { }

    /** how: by READING 0 DROPPED, 1 AS READ, 2 SLIPPED. */
    record Repair(int[] how, int[] far, int good) { }

    private House house = new House(List.of(), 20, 0);
    private List<Change> changes = List.of();
    private int start = 0;
    private final StringBuilder text = new StringBuilder();
    private List<House> past = new ArrayList<>();
    private House[] images = new House[2];
    private List<Repair> best;

    // ---- what is told

    int type(int letter) {
        if (letter < 0 || letter > 255) return BAD;
        if (text.length() == 120) return FULL;
        text.append((char) letter);
        return text.length();
    }

    int clear() {
        int had = text.length();
        text.setLength(0);
        return had;
    }

    private record Token(String word, int place) { }

    private static List<Token> tokens(String text) {
        List<Token> all = new ArrayList<>();
        int i = 0;
        while (i < text.length()) {
            int j = i + 1;
            if ("0123456789".indexOf(text.charAt(i)) >= 0) {
                while (j < text.length() && "0123456789".indexOf(text.charAt(j)) >= 0) j++;
            }
            if (text.charAt(i) != ' ') all.add(new Token(text.substring(i, j), i));
            i = j;
        }
        all.add(new Token("", text.length()));
        return all;
    }

    /** Whether a word is one of a pattern's kind: D, C, W, F (RATE), G (WRAP), A (a plate), or a sign itself. */
    private static boolean fits(String word, char kind) {
        boolean number = word.matches("0|[1-9][0-9]{0,3}");
        int value = number ? Integer.parseInt(word) : -1;
        return switch (kind) {
            case 'D' -> number && value <= 999;
            case 'C' -> number;
            case 'W' -> number && value >= 1 && value <= 9;
            case 'F' -> number && value >= 1 && value <= 99;
            case 'G' -> number && (value == 0 || value >= 100);
            case 'A' -> word.matches("[a-h]");
            default -> word.equals(String.valueOf(kind));
        };
    }

    int house() {
        List<Token> tokens = tokens(text.toString());
        List<Reading> readings = new ArrayList<>();
        List<Change> plates = new ArrayList<>();
        int rate = 20, wrap = 0, first = 0, items = 0, i = 0;
        String told = "";
        while (!tokens.get(i).word.isEmpty()) {
            String head = tokens.get(i).word;
            String pattern = switch (head) {
                case "r" -> readings.size() < 10 ? "rDCW;" : "-";
                case "f" -> told.contains("f") ? "-" : "fF;";
                case "w" -> told.contains("w") ? "-" : "wG;";
                case "o" -> told.contains("o") ? "-" : "oA;";
                case "p" -> plates.size() < 6 ? "pDAA;" : "-";
                default -> "-";
            };
            if (pattern.equals("-")) return -10 - tokens.get(i).place;
            for (int k = 0; k < pattern.length(); k++) {
                Token token = tokens.get(i + k);
                boolean same = head.equals("p") && k == 3 && token.word.equals(tokens.get(i + 2).word);
                if (!fits(token.word, pattern.charAt(k)) || same) return -10 - token.place;
            }
            String one = tokens.get(i + 1).word;
            switch (head) {
                case "r" -> readings.add(new Reading(Integer.parseInt(one),
                    Integer.parseInt(tokens.get(i + 2).word), Integer.parseInt(tokens.get(i + 3).word)));
                case "f" -> rate = Integer.parseInt(one);
                case "w" -> wrap = Integer.parseInt(one);
                case "o" -> first = one.charAt(0) - 'a';
                default -> plates.add(new Change(Integer.parseInt(one),
                    tokens.get(i + 2).word.charAt(0) - 'a', tokens.get(i + 3).word.charAt(0) - 'a'));
            }
            told += head;
            items++;
            i += pattern.length();
        }
        readings.sort((a, b) -> Integer.compare(a.day, b.day));
        plates.sort((a, b) -> Integer.compare(a.day, b.day));
        set(new House(readings, rate, wrap));
        changes = plates;
        start = first;
        text.setLength(0);
        past = new ArrayList<>();
        images = new House[2];
        return items;
    }

    private void set(House other) {
        house = other;
        best = null;
    }

    // ---- REPAIRS

    /** FAR of a COUNT behind another FAR; FALLS: -1. */
    private static int farBehind(int count, int ahead, int wrap) {
        for (int turns = 0; turns <= 3; turns++) {
            if (count + turns * wrap >= ahead) return count + turns * wrap;
        }
        return -1;
    }

    /** What a way to keep comes to; null if it is no REPAIR. */
    private static Repair repair(House house, int[] how) {
        int[] far = new int[how.length];
        int good = 0, last = -1;
        for (int k = 0; k < how.length; k++) {
            far[k] = NONE;
            if (how[k] == 0) continue;
            Reading now = house.readings.get(k);
            int count = how[k] == 1 ? now.count : now.count * 5 / 8;
            if (last < 0) {
                far[k] = count;
            } else {
                far[k] = farBehind(count, far[last], house.wrap);
                int days = now.day - house.readings.get(last).day;
                if (far[k] < 0 || far[k] > far[last] + house.rate * days) return null;
            }
            good += how[k] == 1 ? 2 * now.worth : now.worth;
            last = k;
        }
        return new Repair(how.clone(), far, good);
    }

    /** The BEST, in the order in which THE FIRST of them is the first. */
    private static List<Repair> best(House house) {
        List<Repair> found = new ArrayList<>();
        write(house, new int[house.readings.size()], 0, found);
        return found;
    }

    private static void write(House house, int[] how, int k, List<Repair> found) {
        if (k == how.length) {
            Repair one = repair(house, how);
            if (one == null) return;
            if (!found.isEmpty() && found.get(0).good < one.good) found.clear();
            if (found.isEmpty() || found.get(0).good == one.good) found.add(one);
            return;
        }
        for (int way : new int[] {1, 2, 0}) {
            how[k] = way;
            write(house, how, k + 1, found);
        }
        how[k] = 0;
    }

    private List<Repair> best() {
        if (best == null) best = best(house);
        return best;
    }

    private int goodOf(List<Reading> some) {
        return best(new House(some, house.rate, house.wrap)).get(0).good;
    }

    private int lastKept(int[] how, int beforeThis) {
        int last = -1;
        for (int j = 0; j < beforeThis; j++) if (how[j] != 0) last = j;
        return last;
    }

    private int reason(int k) {
        Repair first = best().get(0);
        if (first.how[k] != 0) return 0;
        int last = lastKept(first.how, k);
        if (last < 0) return 3;
        int far = farBehind(house.readings.get(k).count, first.far[last], house.wrap);
        if (far < 0) return 1;
        int days = house.readings.get(k).day - house.readings.get(last).day;
        return far > first.far[last] + house.rate * days ? 2 : 3;
    }

    private int[] swap() {
        int t = NONE, most = best().get(0).good;
        int n = house.readings.size();
        for (int i = 1; i < n; i++) {
            int together = goodOf(house.readings.subList(0, i)) + goodOf(house.readings.subList(i, n));
            if (together > most) {
                most = together;
                t = i;
            }
        }
        return new int[] {t, t == NONE ? NONE : most};
    }

    // ---- what is answered

    int reading(int k, int what) {
        if (k < 0 || k >= house.readings.size() || what < 0 || what > 5) return BAD;
        Reading one = house.readings.get(k);
        return switch (what) {
            case 0 -> one.day;
            case 1 -> one.count;
            case 2 -> one.worth;
            case 3 -> best().get(0).how[k];
            case 4 -> best().get(0).far[k];
            default -> reason(k);
        };
    }

    /** HELD by bits; CHANGE 0 is the order's highest bit, so that the first of several is come to first. */
    private int held() {
        int found = 0, most = -1;
        for (int order = (1 << changes.size()) - 1; order >= 0; order--) {
            int plate = start, count = 0, bits = 0;
            boolean chain = true;
            for (int k = 0; k < changes.size(); k++) {
                if ((order >> (changes.size() - 1 - k) & 1) == 0) continue;
                chain &= changes.get(k).was == plate;
                plate = changes.get(k).then;
                bits |= 1 << k;
                count++;
            }
            if (chain && count > most) {
                most = count;
                found = bits;
            }
        }
        return found;
    }

    int change(int k, int what) {
        if (k < 0 || k >= changes.size() || what < 0 || what > 3) return BAD;
        Change one = changes.get(k);
        return switch (what) {
            case 0 -> one.day;
            case 1 -> one.was;
            case 2 -> one.then;
            default -> held() >> k & 1;
        };
    }

    int now(int what) {
        if (what < 0 || what > 7) return BAD;
        int certain = (1 << house.readings.size()) - 1, possible = 0;
        for (Repair one : best()) {
            int bits = 0;
            for (int k = 0; k < one.how.length; k++) if (one.how[k] != 0) bits |= 1 << k;
            certain &= bits;
            possible |= bits;
        }
        int kept = 0;
        for (int way : best().get(0).how) if (way != 0) kept++;
        return switch (what) {
            case 0 -> best().get(0).good;
            case 1 -> kept;
            case 2 -> certain;
            case 3 -> possible;
            case 4 -> swap()[0];
            case 5 -> swap()[1];
            case 6 -> Integer.bitCount(held());
            default -> past.size();
        };
    }

    long rivals() {
        return best().size();
    }

    private void remember() {
        past.add(house);
        if (past.size() > 10) past.remove(0);
    }

    int adds(int day, int count, int worth) {
        if (day < 0 || day > 999 || count < 0 || count > 9999 || worth < 1 || worth > 9) return BAD;
        if (house.readings.size() == 10) return FULL;
        remember();
        List<Reading> more = new ArrayList<>(house.readings);
        int k = 0;
        while (k < more.size() && more.get(k).day <= day) k++;
        more.add(k, new Reading(day, count, worth));
        set(new House(more, house.rate, house.wrap));
        return k;
    }

    int strikes(int k) {
        if (k < 0 || k >= house.readings.size()) return BAD;
        remember();
        List<Reading> fewer = new ArrayList<>(house.readings);
        fewer.remove(k);
        set(new House(fewer, house.rate, house.wrap));
        return fewer.size();
    }

    int rules(int rate, int wrap) {
        if (rate < 1 || rate > 99 || wrap != 0 && (wrap < 100 || wrap > 9999)) return BAD;
        remember();
        set(new House(house.readings, rate, wrap));
        return best().get(0).good;
    }

    int undo() {
        if (past.isEmpty()) return STATE;
        set(past.remove(past.size() - 1));
        return past.size();
    }

    int on(int day, int what) {
        if (day < 0 || day > 999 || what < 0 || what > 1) return BAD;
        int ahead = -1, behind = -1;
        Repair first = best().get(0);
        for (int k = 0; k < first.how.length; k++) {
            if (first.how[k] == 0) continue;
            if (house.readings.get(k).day <= day) ahead = k;
            else if (behind < 0) behind = k;
        }
        if (ahead < 0 || behind < 0) return NONE;
        int least = NONE, greatest = NONE;
        for (int far = first.far[ahead]; far <= first.far[behind]; far++) {
            if (far - first.far[ahead] > house.rate * (day - house.readings.get(ahead).day)) continue;
            if (first.far[behind] - far > house.rate * (house.readings.get(behind).day - day)) continue;
            if (least == NONE) least = far;
            greatest = far;
        }
        return what == 0 ? least : greatest;
    }

    int plate(int day) {
        if (day < 0 || day > 999) return BAD;
        int plate = start, held = held();
        for (int k = 0; k < changes.size(); k++) {
            if ((held >> k & 1) == 1 && changes.get(k).day <= day) plate = changes.get(k).then;
        }
        return plate;
    }

    long odds(int x, int g, int what) {
        if (x < 0 || x > 10 || g < 0 || g > 180 || what < 0 || what > 1) return BAD;
        int n = house.readings.size();
        BigInteger upper = BigInteger.ZERO, lower = BigInteger.TEN.pow(n);
        for (int set = 0; set < 1 << n; set++) {
            List<Reading> left = new ArrayList<>();
            for (int k = 0; k < n; k++) if ((set >> k & 1) == 1) left.add(house.readings.get(k));
            if (goodOf(left) < g) continue;
            upper = upper.add(BigInteger.valueOf(10 - x).pow(left.size())
                .multiply(BigInteger.valueOf(x).pow(n - left.size())));
        }
        BigInteger divisor = upper.gcd(lower);
        return (what == 0 ? upper : lower).divide(divisor).longValueExact();
    }

    int keep(int image) {
        if (image < 0 || image > 1) return BAD;
        images[image] = house;
        return house.readings.size();
    }

    int back(int image) {
        if (image < 0 || image > 1) return BAD;
        if (images[image] == null) return STATE;
        set(images[image]);
        past = new ArrayList<>();
        return house.readings.size();
    }

    int count(int what) {
        return switch (what) {
            case 0 -> house.readings.size();
            case 1 -> changes.size();
            case 2 -> house.rate;
            case 3 -> house.wrap;
            case 4 -> start;
            case 5 -> text.length();
            default -> BAD;
        };
    }
}
