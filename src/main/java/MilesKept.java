import java.util.Arrays;

/** A house of vehicles' histories; ../shared/DOC.md tells what the words in capitals mean. */
public final class MilesKept {
    public static final int BAD = -1, STATE = -2, FULL = -3, NONE = -9;

    private static final int MOST_READINGS = 10;
    private static final int MOST_CHANGES = 6;
    private static final int MOST_LETTERS = 120;
    private static final int MOST_UNDONE = 10;
    private static final int MOST_IMAGES = 2;
    private static final int LAST_DAY = 999;
    private static final int MOST_COUNT = 9999;
    private static final int MOST_WORTH = 9;
    private static final int MOST_RATE = 99;
    private static final int LEAST_WRAP = 100;
    private static final int MOST_WRAP = 9999;
    private static final int MOST_GOOD = 180;
    private static final int MOST_NUMBER = 9999;
    private static final int ALL_PLATES = 8;
    private static final int TENTHS = 10;

    private static final int RATE_AT_FIRST = 20;
    private static final int WRAP_AT_FIRST = 0;
    private static final int START_AT_FIRST = 0;

    /** A stand is a READING, how it is KEPT and its TURNS, as one number; stand 0: none is KEPT yet. */
    private static final int NO_STAND = 0;
    private static final int WAYS_TO_KEEP = 2;
    private static final int ALL_TURNS = 4;
    private static final int STANDS_OF_ONE = WAYS_TO_KEEP * ALL_TURNS;
    private static final int ALL_STANDS = (MOST_READINGS + 1) * STANDS_OF_ONE;
    private static final int FALLS = -1;
    private static final int RACES = -2;

    private static final int TEXT_ENDS = -1;
    private static final int A_NUMBER = -2;
    private static final int NO_TOKEN = -3;
    private static final int FAULT_AT_0 = -10;

    private final History history;
    private final Plates plates;
    private final Teller teller;
    private final Past past;
    private final History[] images;
    private final boolean[] imageKept;
    private final Repairs repairs;
    private final Losses losses;

    public MilesKept() {
        history = new History();
        plates = new Plates();
        teller = new Teller();
        past = new Past();
        images = new History[MOST_IMAGES];
        for (int i = 0; i < MOST_IMAGES; i++) {
            images[i] = new History();
        }
        imageKept = new boolean[MOST_IMAGES];
        Stands stands = new Stands(history);
        repairs = new Repairs(stands);
        losses = new Losses(stands);
        repairAnew();
        plates.follow();
    }

    // ---- the house

    public int type(int letter) {
        if (letter < 0 || letter > 255) {
            return BAD;
        }
        return teller.take(letter);
    }

    public int clear() {
        return teller.empty();
    }

    public int house() {
        int items = teller.read();
        if (items < 0) {
            return items;
        }
        history.copy(teller.history);
        plates.copy(teller.plates);
        teller.empty();
        past.forget();
        for (int i = 0; i < MOST_IMAGES; i++) {
            imageKept[i] = false;
        }
        repairAnew();
        plates.follow();
        return items;
    }

    public int reading(int k, int what) {
        if (!history.readings.has(k)) {
            return BAD;
        }
        switch (what) {
            case 0: return history.readings.days[k];
            case 1: return history.readings.firsts[k];
            case 2: return history.readings.seconds[k];
            case 3: return repairs.howKept(k);
            case 4: return repairs.farOf(k);
            case 5: return repairs.reasonOf(k);
            default: return BAD;
        }
    }

    public int change(int k, int what) {
        if (!plates.changes.has(k)) {
            return BAD;
        }
        switch (what) {
            case 0: return plates.changes.days[k];
            case 1: return plates.changes.firsts[k];
            case 2: return plates.changes.seconds[k];
            case 3: return plates.held[k] ? 1 : 0;
            default: return BAD;
        }
    }

    public int now(int what) {
        switch (what) {
            case 0: return repairs.bestGood();
            case 1: return repairs.keptInFirst;
            case 2: return repairs.certain();
            case 3: return repairs.possible();
            case 4: return repairs.swapAt;
            case 5: return repairs.swapGood;
            case 6: return plates.heldInAll;
            case 7: return past.size;
            default: return BAD;
        }
    }

    public long rivals() {
        return repairs.bestWays();
    }

    // ---- what is done

    public int adds(int day, int count, int worth) {
        if (!isDay(day) || !isWithin(count, 0, MOST_COUNT) || !isWithin(worth, 1, MOST_WORTH)) {
            return BAD;
        }
        if (history.readings.isFull()) {
            return FULL;
        }
        past.remember(history);
        int k = history.readings.insert(day, count, worth);
        repairAnew();
        return k;
    }

    public int strikes(int k) {
        if (!history.readings.has(k)) {
            return BAD;
        }
        past.remember(history);
        history.readings.remove(k);
        repairAnew();
        return history.readings.size;
    }

    public int rules(int rate, int wrap) {
        if (!isWithin(rate, 1, MOST_RATE) || !isWrap(wrap)) {
            return BAD;
        }
        past.remember(history);
        history.rate = rate;
        history.wrap = wrap;
        repairAnew();
        return repairs.bestGood();
    }

    public int undo() {
        if (past.size == 0) {
            return STATE;
        }
        past.recall(history);
        repairAnew();
        return past.size;
    }

    // ---- days

    public int on(int day, int what) {
        if (!isDay(day) || !isWithin(what, 0, 1)) {
            return BAD;
        }
        return repairs.farOn(day, what == 1);
    }

    public int plate(int day) {
        if (!isDay(day)) {
            return BAD;
        }
        return plates.plateOn(day);
    }

    public long odds(int x, int g, int what) {
        if (!isWithin(x, 0, TENTHS) || !isWithin(g, 0, MOST_GOOD) || !isWithin(what, 0, 1)) {
            return BAD;
        }
        int size = history.readings.size;
        long upper = losses.weightOf(x, g);
        long lower = Losses.power(TENTHS, size);
        // The lower number is a power of ten, so no other primes than 2 and 5 can be in both.
        for (int i = 0; i < size; i++) {
            if (upper % 2 == 0 && lower % 2 == 0) {
                upper /= 2;
                lower /= 2;
            }
            if (upper % 5 == 0 && lower % 5 == 0) {
                upper /= 5;
                lower /= 5;
            }
        }
        return what == 0 ? upper : lower;
    }

    // ---- images

    public int keep(int image) {
        if (!isWithin(image, 0, MOST_IMAGES - 1)) {
            return BAD;
        }
        images[image].copy(history);
        imageKept[image] = true;
        return history.readings.size;
    }

    public int back(int image) {
        if (!isWithin(image, 0, MOST_IMAGES - 1)) {
            return BAD;
        }
        if (!imageKept[image]) {
            return STATE;
        }
        history.copy(images[image]);
        past.forget();
        repairAnew();
        return history.readings.size;
    }

    public int count(int what) {
        switch (what) {
            case 0: return history.readings.size;
            case 1: return plates.changes.size;
            case 2: return history.rate;
            case 3: return history.wrap;
            case 4: return plates.start;
            case 5: return teller.length;
            default: return BAD;
        }
    }

    /** To be called whenever READINGS, RATE or WRAP are others: all that is told of them hangs on it. */
    private void repairAnew() {
        repairs.solve();
        losses.forget();
    }

    private static boolean isWithin(int number, int least, int most) {
        return number >= least && number <= most;
    }

    private static boolean isDay(int number) {
        return isWithin(number, 0, LAST_DAY);
    }

    private static boolean isWrap(int number) {
        return number == 0 || isWithin(number, LEAST_WRAP, MOST_WRAP);
    }

    /** Entries of a day and two numbers, in the order of their days. */
    private static final class Entries {
        final int[] days;
        final int[] firsts;
        final int[] seconds;
        int size;

        Entries(int most) {
            days = new int[most];
            firsts = new int[most];
            seconds = new int[most];
        }

        boolean has(int k) {
            return k >= 0 && k < size;
        }

        boolean isFull() {
            return size >= days.length;
        }

        /** The entry's number: behind all of its day, for those were told ahead of it. */
        int insert(int day, int first, int second) {
            if (isFull()) {
                return NONE;
            }
            int k = size;
            size++;
            while (k > 0 && days[k - 1] > day) {
                put(k, days[k - 1], firsts[k - 1], seconds[k - 1]);
                k--;
            }
            put(k, day, first, second);
            return k;
        }

        void remove(int k) {
            if (!has(k)) {
                return;
            }
            for (int i = k; i + 1 < size; i++) {
                put(i, days[i + 1], firsts[i + 1], seconds[i + 1]);
            }
            size--;
        }

        void copy(Entries other) {
            size = Math.min(other.size, days.length);
            for (int i = 0; i < size; i++) {
                put(i, other.days[i], other.firsts[i], other.seconds[i]);
            }
        }

        void put(int k, int day, int first, int second) {
            if (!has(k)) {
                return;
            }
            days[k] = day;
            firsts[k] = first;
            seconds[k] = second;
        }
    }

    /** What an IMAGE keeps and what can be UNDONE: READINGS (COUNT first, WORTH second), RATE, WRAP. */
    private static final class History {
        final Entries readings = new Entries(MOST_READINGS);
        int rate = RATE_AT_FIRST;
        int wrap = WRAP_AT_FIRST;

        void reset() {
            readings.size = 0;
            rate = RATE_AT_FIRST;
            wrap = WRAP_AT_FIRST;
        }

        void copy(History other) {
            readings.copy(other.readings);
            rate = other.rate;
            wrap = other.wrap;
        }
    }

    /** What was ahead of each of the latest deeds, in a ring, so that the oldest one makes room. */
    private static final class Past {
        final History[] earlier = new History[MOST_UNDONE];
        int size;
        int next;

        Past() {
            for (int i = 0; i < MOST_UNDONE; i++) {
                earlier[i] = new History();
            }
        }

        void forget() {
            size = 0;
        }

        void remember(History history) {
            earlier[next].copy(history);
            next = next + 1 < MOST_UNDONE ? next + 1 : 0;
            size = Math.min(size + 1, MOST_UNDONE);
        }

        void recall(History history) {
            if (size == 0) {
                return;
            }
            next = next > 0 ? next - 1 : MOST_UNDONE - 1;
            size--;
            history.copy(earlier[next]);
        }
    }

    /** START and the CHANGES (the plate that was first, the one that is then second). */
    private static final class Plates {
        final Entries changes = new Entries(MOST_CHANGES);
        final boolean[] held = new boolean[MOST_CHANGES];
        final int[] most = new int[(MOST_CHANGES + 1) * ALL_PLATES];
        int start = START_AT_FIRST;
        int heldInAll;

        void reset() {
            changes.size = 0;
            start = START_AT_FIRST;
        }

        void copy(Plates other) {
            changes.copy(other.changes);
            start = other.start;
        }

        /** Finds which CHANGES are HELD. */
        void follow() {
            countBackward();
            heldInAll = 0;
            int plate = start;
            for (int k = 0; k < changes.size; k++) {
                held[k] = isLink(k, plate) && withLink(k) >= mostFrom(k + 1, plate);
                if (held[k]) {
                    plate = changes.seconds[k];
                    heldInAll++;
                }
            }
        }

        int plateOn(int day) {
            int plate = start;
            for (int k = 0; k < changes.size; k++) {
                if (held[k] && changes.days[k] <= day) {
                    plate = changes.seconds[k];
                }
            }
            return plate;
        }

        private void countBackward() {
            Arrays.fill(most, 0);
            for (int k = changes.size - 1; k >= 0; k--) {
                for (int plate = 0; plate < ALL_PLATES; plate++) {
                    int without = mostFrom(k + 1, plate);
                    most[k * ALL_PLATES + plate] = isLink(k, plate) ? Math.max(without, withLink(k)) : without;
                }
            }
        }

        private boolean isLink(int k, int plate) {
            return changes.firsts[k] == plate;
        }

        private int withLink(int k) {
            return 1 + mostFrom(k + 1, changes.seconds[k]);
        }

        private int mostFrom(int k, int plate) {
            return most[k * ALL_PLATES + plate];
        }
    }

    /** THE TEXT, and what it tells: a house of its own, so that a FAULT changes nothing. */
    private static final class Teller {
        final int[] letters = new int[MOST_LETTERS];
        final History history = new History();
        final Plates plates = new Plates();
        int length;
        private int at;
        private int place;
        private int token;
        private int number;
        private boolean rateTold;
        private boolean wrapTold;
        private boolean startTold;

        int take(int letter) {
            if (length >= MOST_LETTERS) {
                return FULL;
            }
            letters[length] = letter;
            length++;
            return length;
        }

        int empty() {
            int had = length;
            length = 0;
            return had;
        }

        /** How many ITEMS; -10 less FAULT. Reading ends at the TOKEN that can't stand, so its place is FAULT. */
        int read() {
            begin();
            for (int items = 0; items <= MOST_LETTERS; items++) {
                boolean stands = false;
                nextToken();
                switch (token) {
                    case TEXT_ENDS: return items;
                    case 'r': stands = readReading(); break;
                    case 'f': stands = readRate(); break;
                    case 'w': stands = readWrap(); break;
                    case 'o': stands = readStart(); break;
                    case 'p': stands = readChange(); break;
                    default: break;
                }
                if (!stands) {
                    break;
                }
            }
            return FAULT_AT_0 - place;
        }

        private void begin() {
            history.reset();
            plates.reset();
            at = 0;
            rateTold = false;
            wrapTold = false;
            startTold = false;
        }

        private boolean readReading() {
            if (history.readings.isFull()) {
                return false;
            }
            int day = nextNumber(0, LAST_DAY);
            if (day < 0) {
                return false;
            }
            int count = nextNumber(0, MOST_COUNT);
            if (count < 0) {
                return false;
            }
            int worth = nextNumber(1, MOST_WORTH);
            if (worth < 0 || !nextEnds()) {
                return false;
            }
            history.readings.insert(day, count, worth);
            return true;
        }

        private boolean readRate() {
            if (rateTold) {
                return false;
            }
            int rate = nextNumber(1, MOST_RATE);
            if (rate < 0 || !nextEnds()) {
                return false;
            }
            rateTold = true;
            history.rate = rate;
            return true;
        }

        private boolean readWrap() {
            if (wrapTold) {
                return false;
            }
            int wrap = nextNumber(0, MOST_WRAP);
            if (!isWrap(wrap) || !nextEnds()) {
                return false;
            }
            wrapTold = true;
            history.wrap = wrap;
            return true;
        }

        private boolean readStart() {
            if (startTold) {
                return false;
            }
            int plate = nextPlate();
            if (plate < 0 || !nextEnds()) {
                return false;
            }
            startTold = true;
            plates.start = plate;
            return true;
        }

        private boolean readChange() {
            if (plates.changes.isFull()) {
                return false;
            }
            int day = nextNumber(0, LAST_DAY);
            if (day < 0) {
                return false;
            }
            int was = nextPlate();
            if (was < 0) {
                return false;
            }
            int then = nextPlate();
            if (then < 0 || then == was || !nextEnds()) {
                return false;
            }
            plates.changes.insert(day, was, then);
            return true;
        }

        private int nextNumber(int least, int most) {
            nextToken();
            return token == A_NUMBER && isWithin(number, least, most) ? number : NONE;
        }

        private int nextPlate() {
            nextToken();
            return isWithin(token, 'a', 'a' + ALL_PLATES - 1) ? token - 'a' : NONE;
        }

        private boolean nextEnds() {
            nextToken();
            return token == ';';
        }

        /** Any other letter is a TOKEN too: no ITEM asks for it, so that it can't stand anywhere. */
        private void nextToken() {
            while (at < length && letters[at] == ' ') {
                at++;
            }
            place = at;
            if (at >= length) {
                token = TEXT_ENDS;
            } else if (isDigit(letters[at])) {
                takeNumber();
            } else {
                token = letters[at];
                at++;
            }
        }

        private void takeNumber() {
            number = 0;
            while (at < length && isDigit(letters[at])) {
                // One beyond the most is enough to know, and can't run over.
                number = Math.min(number * 10 + letters[at] - '0', MOST_NUMBER + 1);
                at++;
            }
            boolean zeroAhead = letters[place] == '0' && at - place > 1;
            token = zeroAhead || number > MOST_NUMBER ? NO_TOKEN : A_NUMBER;
        }

        private static boolean isDigit(int letter) {
            return letter >= '0' && letter <= '9';
        }
    }

    /** DAY, FAR and GOOD of each stand, and which stand follows another one. */
    private static final class Stands {
        final int[] days = new int[ALL_STANDS];
        final int[] fars = new int[ALL_STANDS];
        final int[] goods = new int[ALL_STANDS];
        private final History history;

        Stands(History history) {
            this.history = history;
        }

        int size() {
            return history.readings.size;
        }

        /** One beyond the last READING's last stand. */
        int end() {
            return standOf(size(), 0);
        }

        static int standOf(int k, int slip) {
            return ((k + 1) * WAYS_TO_KEEP + slip) * ALL_TURNS;
        }

        static int readingOf(int s) {
            return s / STANDS_OF_ONE - 1;
        }

        static int slipOf(int s) {
            return s / ALL_TURNS % WAYS_TO_KEEP;
        }

        /** To be called ahead of all else when READINGS or WRAP are others. */
        void measure() {
            Entries readings = history.readings;
            for (int k = 0; k < readings.size; k++) {
                int count = readings.firsts[k];
                int worth = readings.seconds[k];
                place(standOf(k, 0), readings.days[k], count, 2 * worth);
                place(standOf(k, 1), readings.days[k], count * 5 / 8, worth);
            }
        }

        private void place(int first, int day, int count, int good) {
            for (int turns = 0; turns < ALL_TURNS; turns++) {
                days[first + turns] = day;
                fars[first + turns] = count + turns * history.wrap;
                goods[first + turns] = good;
            }
        }

        /** The stand of READING k, KEPT by that slip just behind stand s; FALLS, RACES. */
        int following(int s, int k, int slip) {
            int first = standOf(k, slip);
            if (s == NO_STAND) {
                return first;
            }
            for (int turns = 0; turns < ALL_TURNS; turns++) {
                int gone = fars[first + turns] - fars[s];
                if (gone >= 0) {
                    return gone <= mostGone(days[s], days[first]) ? first + turns : RACES;
                }
            }
            return FALLS;
        }

        int mostGone(int fromDay, int toDay) {
            return history.rate * (toDay - fromDay);
        }
    }

    /** The BEST, THE FIRST of them, and SWAP. A REPAIR is a chain of stands from NO_STAND on. */
    private static final class Repairs {
        private final Stands stands;
        private final int[] until = new int[ALL_STANDS];
        private final int[] rest = new int[ALL_STANDS];
        private final long[] ways = new long[ALL_STANDS];
        private final int[] inEach = new int[ALL_STANDS];
        private final int[] inAny = new int[ALL_STANDS];
        private final int[] firstStands = new int[MOST_READINGS];
        private final int[] reasons = new int[MOST_READINGS];
        int keptInFirst;
        int swapAt;
        int swapGood;

        Repairs(Stands stands) {
            this.stands = stands;
        }

        void solve() {
            stands.measure();
            goForward();
            goBackward();
            chooseFirst();
            findSwap();
        }

        int bestGood() {
            return rest[NO_STAND];
        }

        long bestWays() {
            return ways[NO_STAND];
        }

        int certain() {
            return inEach[NO_STAND];
        }

        int possible() {
            return inAny[NO_STAND];
        }

        int howKept(int k) {
            return firstStands[k] == NO_STAND ? 0 : 1 + Stands.slipOf(firstStands[k]);
        }

        int farOf(int k) {
            return firstStands[k] == NO_STAND ? NONE : stands.fars[firstStands[k]];
        }

        int reasonOf(int k) {
            return reasons[k];
        }

        /** ON a DAY: the greatest FAR, or the least. */
        int farOn(int day, boolean greatest) {
            int ahead = lastUntil(day);
            int behind = firstAfter(day);
            if (ahead == NO_STAND || behind == NO_STAND) {
                return NONE;
            }
            int gone = stands.mostGone(stands.days[ahead], day);
            int toCome = stands.mostGone(day, stands.days[behind]);
            return greatest
                ? Math.min(stands.fars[behind], stands.fars[ahead] + gone)
                : Math.max(stands.fars[ahead], stands.fars[behind] - toCome);
        }

        private int lastUntil(int day) {
            int found = NO_STAND;
            for (int k = 0; k < stands.size(); k++) {
                if (firstStands[k] != NO_STAND && stands.days[firstStands[k]] <= day) {
                    found = firstStands[k];
                }
            }
            return found;
        }

        private int firstAfter(int day) {
            for (int k = 0; k < stands.size(); k++) {
                if (firstStands[k] != NO_STAND && stands.days[firstStands[k]] > day) {
                    return firstStands[k];
                }
            }
            return NO_STAND;
        }

        /** The greatest GOOD by which each stand can be come to, its own too; FALLS: it can't. */
        private void goForward() {
            Arrays.fill(until, FALLS);
            until[NO_STAND] = 0;
            for (int s = 0; s < stands.end(); s++) {
                if (until[s] >= 0) {
                    spread(s);
                }
            }
        }

        private void spread(int s) {
            for (int k = Stands.readingOf(s) + 1; k < stands.size(); k++) {
                for (int slip = 0; slip < WAYS_TO_KEEP; slip++) {
                    int next = stands.following(s, k, slip);
                    if (next >= 0) {
                        until[next] = Math.max(until[next], until[s] + stands.goods[next]);
                    }
                }
            }
        }

        private void goBackward() {
            for (int s = stands.end() - 1; s >= 0; s--) {
                if (until[s] >= 0) {
                    gather(s);
                }
            }
        }

        /** The greatest GOOD from a stand on, its own too; how many go on so, what each and any of these keep. */
        private void gather(int s) {
            int best = 0;
            long count = 1;
            int each = 0;
            int any = 0;
            for (int k = Stands.readingOf(s) + 1; k < stands.size(); k++) {
                for (int slip = 0; slip < WAYS_TO_KEEP; slip++) {
                    int next = stands.following(s, k, slip);
                    if (next < 0 || rest[next] < best) {
                        continue;
                    }
                    boolean more = rest[next] > best;
                    best = rest[next];
                    count = more ? ways[next] : count + ways[next];
                    each = more ? inEach[next] : each & inEach[next];
                    any = more ? inAny[next] : any | inAny[next];
                }
            }
            int own = s == NO_STAND ? 0 : 1 << Stands.readingOf(s);
            rest[s] = best + stands.goods[s];
            ways[s] = count;
            inEach[s] = each | own;
            inAny[s] = any | own;
        }

        private void chooseFirst() {
            int s = NO_STAND;
            int good = rest[NO_STAND];
            keptInFirst = 0;
            for (int k = 0; k < stands.size(); k++) {
                int next = bestStand(s, k, good);
                firstStands[k] = next;
                reasons[k] = next == NO_STAND ? reasonBehind(s, k) : 0;
                if (next != NO_STAND) {
                    good -= stands.goods[next];
                    s = next;
                    keptInFirst++;
                }
            }
        }

        /** How READING k is KEPT behind stand s if so much GOOD is still to come from it on. */
        private int bestStand(int s, int k, int good) {
            for (int slip = 0; slip < WAYS_TO_KEEP; slip++) {
                int next = stands.following(s, k, slip);
                if (next >= 0 && rest[next] == good) {
                    return next;
                }
            }
            return NO_STAND;
        }

        private int reasonBehind(int s, int k) {
            switch (stands.following(s, k, 0)) {
                case FALLS: return 1;
                case RACES: return 2;
                default: return 3;
            }
        }

        private void findSwap() {
            swapAt = NONE;
            swapGood = NONE;
            int most = bestGood();
            for (int t = 1; t < stands.size(); t++) {
                int together = goodAhead(t) + goodFrom(t);
                if (together > most) {
                    most = together;
                    swapAt = t;
                    swapGood = together;
                }
            }
        }

        private int goodAhead(int t) {
            int good = 0;
            for (int s = 0; s < Stands.standOf(t, 0); s++) {
                good = Math.max(good, until[s]);
            }
            return good;
        }

        private int goodFrom(int t) {
            int good = 0;
            for (int k = t; k < stands.size(); k++) {
                for (int slip = 0; slip < WAYS_TO_KEEP; slip++) {
                    good = Math.max(good, rest[Stands.standOf(k, slip)]);
                }
            }
            return good;
        }
    }

    /**
     * GOOD of the BEST of each set of READINGS that may be left. In a set READING 0 is the highest bit: so, as sets
     * are counted up, the stands of a set less its last READING are still there when that READING comes to it.
     */
    private static final class Losses {
        private final Stands stands;
        private final int[] bests = new int[1 << MOST_READINGS];
        private final int[] keptGoods = new int[ALL_STANDS];
        private final int[] enough = new int[MOST_READINGS + 1];
        private boolean known;

        Losses(Stands stands) {
            this.stands = stands;
        }

        void forget() {
            known = false;
        }

        /** The upper number of ODDS above 10 to the number of READINGS. */
        long weightOf(int x, int g) {
            if (!known) {
                findBests();
            }
            countEnough(g);
            int size = stands.size();
            long weight = 0;
            for (int left = 0; left <= size; left++) {
                weight += enough[left] * power(TENTHS - x, left) * power(x, size - left);
            }
            return weight;
        }

        /** By how many READINGS are left: the sets whose GOOD is g or more. */
        private void countEnough(int g) {
            Arrays.fill(enough, 0);
            for (int set = 0; set < 1 << stands.size(); set++) {
                if (bests[set] >= g) {
                    enough[Integer.bitCount(set)]++;
                }
            }
        }

        static long power(int base, int exponent) {
            long product = 1;
            for (int i = 0; i < exponent; i++) {
                product *= base;
            }
            return product;
        }

        private void findBests() {
            Arrays.fill(keptGoods, FALLS);
            keptGoods[NO_STAND] = 0;
            bests[0] = 0;
            for (int set = 1; set < 1 << stands.size(); set++) {
                int allKept = keepLast(lastOf(set & (set - 1)), lastOf(set));
                bests[set] = Math.max(allKept, bestWithoutOne(set));
            }
            known = true;
        }

        /** The last READING of a set, -1 of the empty one. */
        private int lastOf(int set) {
            return set == 0 ? -1 : stands.size() - 1 - Integer.numberOfTrailingZeros(set);
        }

        /** The greatest GOOD if READING k is KEPT just behind READING j (-1: none), whose stands are filled. */
        private int keepLast(int j, int k) {
            int to = Stands.standOf(k, 0);
            for (int i = 0; i < STANDS_OF_ONE; i++) {
                keptGoods[to + i] = FALLS;
            }
            int from = Stands.standOf(j, 0);
            int best = FALLS;
            for (int s = from; s < from + STANDS_OF_ONE; s++) {
                if (keptGoods[s] >= 0) {
                    best = Math.max(best, Math.max(keepBehind(s, k, 0), keepBehind(s, k, 1)));
                }
            }
            return best;
        }

        private int keepBehind(int s, int k, int slip) {
            int next = stands.following(s, k, slip);
            if (next < 0) {
                return FALLS;
            }
            keptGoods[next] = Math.max(keptGoods[next], keptGoods[s] + stands.goods[next]);
            return keptGoods[next];
        }

        private int bestWithoutOne(int set) {
            int best = 0;
            for (int bit = 1; bit <= set; bit <<= 1) {
                if ((set & bit) != 0) {
                    best = Math.max(best, bests[set - bit]);
                }
            }
            return best;
        }
    }
}
