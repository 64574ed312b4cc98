import java.util.Arrays;

/** Two goats on one rope: the promises are in the project's document, DOC.md. */
public final class TwoGoats {
    public static final int NONE = -1, BAD = -2, NOT = -3, FULL = -4;

    private static final int TEXTS = 3, DAYS = 2, TEXT_MOST = 40;
    private static final int PLACES = 8, PATHS_MOST = 8, PATH_FIGURES = 3;
    private static final int HEAVY_MOST = 9, REACH_MOST = 18, WORTH_MOST = 99;
    private static final int STEP_CODES = 16, STATE_KINDS = 8, COUNT_KINDS = 9;
    private static final int TURNS_MOST = 5, ANY_NUMBER_BAD = -10000 + BAD;
    private static final int SHEETS = 4, FORMS = 3, ITEMS_MOST = 60, LOST = -1;
    private static final int NULL = 1, INDEX = 2, CAST = 3, STORE = 4, SIZE = 5;
    private static final int LEAST_INT = -2147483648;

    private final Meadow meadow = new Meadow();
    private final Day firstDay = new Day(meadow);
    private final Day secondDay = new Day(meadow);
    private final Search search = new Search(meadow);
    private final Turns turns = new Turns(meadow);
    private final Goats relaid = new Goats(meadow);
    private final Sheet[] sheets = new Sheet[SHEETS];
    private int finding = 0;

    public TwoGoats() {
        for (int s = 0; s < SHEETS; s++) {
            sheets[s] = new Sheet();
        }
    }

    // ---- meadow, days

    public int type(int text, int b) {
        if (!isBelow(text, TEXTS) || !isBelow(b, 256)) {
            return BAD;
        }
        Text typed = textOf(text);
        if (typed.size >= TEXT_MOST) {
            return FULL;
        }
        typed.add(b);
        meadow.survey();
        return typed.size;
    }

    public int wipe(int text) {
        if (!isBelow(text, TEXTS)) {
            return BAD;
        }
        Text wiped = textOf(text);
        int had = wiped.size;
        wiped.size = 0;
        meadow.survey();
        return had;
    }

    public int fault() {
        return meadow.faultPlace;
    }

    public int path(int path, int what) {
        if (!isBelow(path, meadow.paths) || !isBelow(what, PATH_FIGURES)) {
            return BAD;
        }
        return meadow.figure(path, what);
    }

    public int start(int day, int place) {
        if (!isBelow(day, DAYS) || !isBelow(place, PLACES)) {
            return BAD;
        }
        Day begun = dayOf(day);
        int was = begun.startPlace;
        begun.startPlace = place;
        return was;
    }

    public int set(int what, int v) {
        if (what == 0 || what == 1) {
            return setHeavy(what, v);
        }
        if (what != 2 || v < 1 || v > REACH_MOST) {
            return BAD;
        }
        int was = meadow.reach;
        meadow.reach = v;
        return was;
    }

    private int setHeavy(int goat, int v) {
        if (!isBelow(goat, 2) || v < 0 || v > HEAVY_MOST) {
            return BAD;
        }
        int was = meadow.heavy[goat];
        meadow.heavy[goat] = v;
        return was;
    }

    public int thistle(int place, int v) {
        if (!isBelow(place, PLACES) || v < 0 || v > WORTH_MOST) {
            return BAD;
        }
        int was = meadow.worth[place];
        meadow.worth[place] = v;
        return was;
    }

    public int read(int s, int day) {
        if (!isBelow(s, SHEETS) || !isBelow(day, DAYS)) {
            return BAD;
        }
        Sheet from = sheets[s];
        if (from.form == LOST) {
            return found(NULL);
        }
        Text to = dayOf(day).text;
        to.size = 0;
        for (int i = 0; i < from.size && i < TEXT_MOST; i++) {
            int code = from.items[i];
            if (!isBelow(code, STEP_CODES)) {
                break;
            }
            to.add(byteOfCode(code));
        }
        return to.size;
    }

    public int undo(int day) {
        if (!isBelow(day, DAYS)) {
            return BAD;
        }
        Text undone = dayOf(day).text;
        if (undone.size <= 0) {
            return NOT;
        }
        undone.size--;
        return undone.size;
    }

    // ---- what becomes

    public int judged(int day) {
        if (!isBelow(day, DAYS)) {
            return BAD;
        }
        Day ended = ended(day);
        return ended.done < ended.text.size ? ended.done : NONE;
    }

    public int state(int day, int k, int what) {
        if (!isBelow(day, DAYS) || k < 0 || !isBelow(what, STATE_KINDS)) {
            return BAD;
        }
        Day walked = dayOf(day);
        walked.walk(k);
        return walked.done < k ? BAD : walked.told(what);
    }

    public int rope(int day, int k, int i) {
        if (!isBelow(day, DAYS) || k < 0 || i < 0) {
            return BAD;
        }
        Day walked = dayOf(day);
        walked.walk(k);
        return walked.done < k ? BAD : walked.goats.pathAt(i);
    }

    public int needs(int day) {
        return isBelow(day, DAYS) ? dayOf(day).longestUnbound() : BAD;
    }

    // ---- from where a day ends

    public int soon(int day, int first, int second) {
        if (!isBelow(day, DAYS) || !isBelow(first, PLACES) || !isBelow(second, PLACES)) {
            return BAD;
        }
        return search.fewest(ended(day).goats, first, second);
    }

    public int loose(int day) {
        return isBelow(day, DAYS) ? ended(day).goats.size : BAD;
    }

    public int pulled(int day, int a, int b, int what) {
        if (!isBelow(day, DAYS) || !isBelow(a, meadow.paths) || !isBelow(b, meadow.paths)) {
            return BAD;
        }
        if (a == b || !isBelow(what, 2)) {
            return BAD;
        }
        if (!meadow.haveSameEnds(a, b)) {
            return NOT;
        }
        relaid.relay(ended(day).goats, a, b);
        return what == 0 ? relaid.size : relaid.length;
    }

    public int began(int day, int place) {
        if (!isBelow(day, DAYS) || !isBelow(place, PLACES)) {
            return BAD;
        }
        Goats lying = ended(day).goats;
        int off = lying.stepsOff(place);
        // The shortest way round by the place goes along the whole rope, and aside to the place and back.
        return off == NONE ? NONE : lying.size + 2 * off;
    }

    public int game(int day, int n, int what) {
        if (!isBelow(day, DAYS) || n < 1 || n > TURNS_MOST || !isBelow(what, 2)) {
            return ANY_NUMBER_BAD;
        }
        int gained = turns.play(ended(day), n);
        return what == 0 ? gained : turns.chosen;
    }

    public int alike() {
        Goats one = ended(0).goats;
        Goats other = ended(1).goats;
        if (!one.standsAs(other)) {
            return 0;
        }
        return one.liesAs(other) ? 1 : 2;
    }

    // ---- sheets

    public int sheet(int s, int form, int n) {
        if (!isBelow(s, SHEETS) || !isBelow(form, FORMS) || n > ITEMS_MOST) {
            return BAD;
        }
        if (n < 0) {
            return found(SIZE);
        }
        sheets[s].renew(form, n);
        return n;
    }

    public int lose(int s) {
        if (!isBelow(s, SHEETS)) {
            return BAD;
        }
        Sheet lost = sheets[s];
        if (lost.form == LOST) {
            return found(NULL);
        }
        int had = lost.size;
        lost.renew(LOST, 0);
        return had;
    }

    public int lay(int s, int form, int i, int v) {
        if (!isBelow(s, SHEETS) || !isBelow(form, FORMS)) {
            return BAD;
        }
        Sheet laid = sheets[s];
        int finds = laid.findsAt(form, i);
        if (finds != 0) {
            return found(finds);
        }
        laid.put(i, v);
        return 1;
    }

    public int get(int s, int form, int i) {
        if (!isBelow(s, SHEETS) || !isBelow(form, FORMS)) {
            return LEAST_INT;
        }
        Sheet got = sheets[s];
        int finds = got.findsAt(form, i);
        if (finds != 0) {
            found(finds);
            return LEAST_INT;
        }
        return got.item(i);
    }

    public int copy(int s, int i, int t, int j, int n) {
        if (!isBelow(s, SHEETS) || !isBelow(t, SHEETS)) {
            return BAD;
        }
        Sheet from = sheets[s];
        Sheet to = sheets[t];
        if (from.form == LOST || to.form == LOST) {
            return found(NULL);
        }
        if (from.form != to.form) {
            return found(STORE);
        }
        if (!from.hasItems(i, n) || !to.hasItems(j, n)) {
            return found(INDEX);
        }
        System.arraycopy(from.items, i, to.items, j, n);
        return 1;
    }

    public int write(int day, int s) {
        if (!isBelow(day, DAYS) || !isBelow(s, SHEETS)) {
            return BAD;
        }
        Sheet to = sheets[s];
        if (to.form == LOST) {
            return found(NULL);
        }
        Goats lying = ended(day).goats;
        int most = Math.min(to.size, lying.size);
        for (int i = 0; i < most; i++) {
            to.put(i, lying.pathAt(i));
        }
        return most;
    }

    public int count(int what) {
        if (!isBelow(what, COUNT_KINDS)) {
            return BAD;
        }
        switch (what) {
            case 0: return meadow.paths;
            case 4: return meadow.allYards();
            case 5: return meadow.worthBeside(0);
            case 6: return ended(0).done;
            case 7: return ended(1).done;
            case 8: return finding;
            default: return textOf(what - 1).size;
        }
    }

    public long digest() {
        long h = 17;
        for (int what = 0; what < COUNT_KINDS - 1; what++) {
            h = 31 * h + count(what);
        }
        h = 31 * h + fault();
        for (int p = 0; p < meadow.paths; p++) {
            for (int what = 0; what < PATH_FIGURES; what++) {
                h = 31 * h + path(p, what);
            }
        }
        for (int day = 0; day < DAYS; day++) {
            int done = ended(day).done;
            h = 31 * h + judged(day);
            for (int what = 0; what < STATE_KINDS; what++) {
                h = 31 * h + state(day, done, what);
            }
            h = 31 * h + rope(day, done, 0);
            h = 31 * h + needs(day);
            h = 31 * h + soon(day, 0, 1);
            h = 31 * h + soon(day, 2, 2);
            h = 31 * h + loose(day);
            h = 31 * h + began(day, 0);
            h = 31 * h + began(day, 1);
            h = 31 * h + game(day, 3, 0);
            h = 31 * h + game(day, 3, 1);
        }
        h = 31 * h + pulled(0, 0, 1, 0);
        h = 31 * h + pulled(0, 0, 1, 1);
        return 31 * h + alike();
    }

    // ---- what the calls share

    private static boolean isBelow(int v, int bound) {
        return v >= 0 && v < bound;
    }

    private Text textOf(int text) {
        return text == 0 ? meadow.text : dayOf(text - 1).text;
    }

    private Day dayOf(int day) {
        return day == 0 ? firstDay : secondDay;
    }

    /** The day, walked anew to its end: all that it hangs on may have been set otherwise since. */
    private Day ended(int day) {
        Day walked = dayOf(day);
        walked.walk(TEXT_MOST);
        return walked;
    }

    private int found(int number) {
        finding = number;
        return -10 - number;
    }

    /** A step's code, as sheets tell it: 0 to 7 the first goat by a path, 8 to 15 the second one. */
    private static int codeOfByte(int b) {
        if (b >= 'a' && b <= 'h') {
            return b - 'a';
        }
        return b >= 'A' && b <= 'H' ? b - 'A' + PATHS_MOST : NONE;
    }

    private static int byteOfCode(int code) {
        return code < PATHS_MOST ? 'a' + code : 'A' + code - PATHS_MOST;
    }

    /** A text of up to 40 bytes. */
    private static final class Text {
        final int[] bytes = new int[TEXT_MOST];
        int size = 0;

        void add(int b) {
            if (isBelow(size, TEXT_MOST)) {
                bytes[size] = b;
                size++;
            }
        }

        int byteAt(int i) {
            return i >= 0 && i < size && i < TEXT_MOST ? bytes[i] : NONE;
        }
    }

    /** The paths, and what is set for every day: the reach, how heavy the goats are, the thistles. */
    private static final class Meadow {
        final Text text = new Text();
        final int[] heavy = {5, 5};
        final int[] worth = new int[PLACES];
        final int[] steps = new int[PLACES];
        final int[] oneEnd = new int[PATHS_MOST];
        final int[] otherEnd = new int[PATHS_MOST];
        final int[] yards = new int[PATHS_MOST];
        int reach = 9;
        int paths = 0;
        int faultPlace = NONE;

        void survey() {
            faultPlace = firstFault();
            paths = faultPlace == NONE ? (text.size + 1) >> 2 : 0;
            for (int p = 0; p < paths && p < PATHS_MOST; p++) {
                oneEnd[p] = figure(p, 0);
                otherEnd[p] = figure(p, 1);
                yards[p] = figure(p, 2);
            }
        }

        // Every path takes three bytes and a ; so a byte's place tells what it has to be.
        private int firstFault() {
            for (int i = 0; i < text.size; i++) {
                if (!fits(i)) {
                    return i;
                }
            }
            return text.size == 0 || (text.size & 3) == 3 ? NONE : text.size;
        }

        private boolean fits(int i) {
            int b = text.byteAt(i);
            switch (i & 3) {
                case 0: return i < 4 * PATHS_MOST && isPlace(b);
                case 1: return isPlace(b) && b != text.byteAt(i - 1);
                case 2: return b >= '1' && b <= '9';
                default: return b == ';';
            }
        }

        private static boolean isPlace(int b) {
            return b >= '0' && b <= '7';
        }

        /** Of a path that is there: its places (what = 0, 1), its yards (2). */
        int figure(int path, int what) {
            return text.byteAt(4 * path + what) - '0';
        }

        boolean leadsFrom(int path, int place) {
            if (path < 0 || path >= paths || path >= PATHS_MOST) {
                return false;
            }
            return oneEnd[path] == place || otherEnd[path] == place;
        }

        /** Where a path that is there leads to; the mask keeps the index inside whatever is asked. */
        int across(int path, int place) {
            int p = path & (PATHS_MOST - 1);
            return oneEnd[p] == place ? otherEnd[p] : oneEnd[p];
        }

        int yardsOf(int path) {
            return yards[path & (PATHS_MOST - 1)];
        }

        boolean haveSameEnds(int a, int b) {
            return leadsFrom(a, figure(b, 0)) && leadsFrom(a, figure(b, 1));
        }

        /** Which of two paths stands for both, when the stake between them is pulled. */
        int shorter(int a, int b) {
            int least = Math.min(a, b);
            int other = Math.max(a, b);
            return yardsOf(other) < yardsOf(least) ? other : least;
        }

        boolean isHeavier(int goat) {
            return goat == 0 ? heavy[0] > heavy[1] : heavy[1] > heavy[0];
        }

        int allYards() {
            int sum = 0;
            for (int p = 0; p < paths; p++) {
                sum += yardsOf(p);
            }
            return sum;
        }

        /** The worth of all thistles, but those of the places in a set (a bit each). */
        int worthBeside(int bare) {
            int sum = 0;
            for (int place = 0; place < PLACES; place++) {
                sum += worthAt(place, bare);
            }
            return sum;
        }

        int worthAt(int place, int bare) {
            return isBelow(place, PLACES) && (bare >> place & 1) == 0 ? worth[place] : 0;
        }

        /** Tells in steps[] how many steps each place is from a told one; NONE. */
        void measureFrom(int place) {
            Arrays.fill(steps, NONE);
            if (!isBelow(place, PLACES)) {
                return;
            }
            steps[place] = 0;
            for (int round = 1; round < PLACES; round++) {
                for (int p = 0; p < paths && p < PATHS_MOST; p++) {
                    measureAcross(oneEnd[p], otherEnd[p], round);
                    measureAcross(otherEnd[p], oneEnd[p], round);
                }
            }
        }

        private void measureAcross(int from, int to, int round) {
            if (isBelow(from, PLACES) && isBelow(to, PLACES) && steps[from] == round - 1 && steps[to] == NONE) {
                steps[to] = round;
            }
        }
    }

    /** Where both goats stand and how the rope lies between them. */
    private static final class Goats {
        // A day without a reach lays at most 40 paths; a power of two lets a mask keep every index inside.
        private static final int RING = 64;

        final Meadow meadow;
        final int[] place = new int[2];
        private final int[] ring = new int[RING];
        private int head = 0;
        int size = 0;
        int length = 0;

        Goats(Meadow meadow) {
            this.meadow = meadow;
        }

        void standBoth(int both) {
            place[0] = both;
            place[1] = both;
            head = 0;
            size = 0;
            length = 0;
        }

        void become(Goats other) {
            standBoth(other.place[0]);
            for (int i = 0; i < other.size; i++) {
                go(1, other.pathAt(i));
            }
        }

        /** As the others lie once a and b, with the same ends, are one: the second goat walks their rope anew. */
        void relay(Goats other, int a, int b) {
            int one = meadow.shorter(a, b);
            standBoth(other.place[0]);
            for (int i = 0; i < other.size; i++) {
                int path = other.pathAt(i);
                go(1, path == a || path == b ? one : path);
            }
        }

        int pathAt(int i) {
            return i >= 0 && i < size ? ring[(head + i) & (RING - 1)] : NONE;
        }

        int nextTo(int goat) {
            if (size == 0) {
                return NONE;
            }
            return ring[(goat == 0 ? head : head + size - 1) & (RING - 1)];
        }

        boolean canGo(int goat, int path) {
            return isBelow(goat, 2) && meadow.leadsFrom(path, place[goat]);
        }

        /** To go by the same path twice changes nothing: what the one lays, the other takes up. */
        void go(int goat, int path) {
            if (!isBelow(goat, 2)) {
                return;
            }
            if (nextTo(goat) == path) {
                takeUp(goat);
                length -= meadow.yardsOf(path);
            } else {
                layDown(goat, path);
                length += meadow.yardsOf(path);
            }
            place[goat] = meadow.across(path, place[goat]);
        }

        private void takeUp(int goat) {
            size--;
            if (goat == 0) {
                head = (head + 1) & (RING - 1);
            }
        }

        private void layDown(int goat, int path) {
            size++;
            if (goat == 0) {
                head = (head - 1) & (RING - 1);
                ring[head] = path;
            } else {
                ring[(head + size - 1) & (RING - 1)] = path;
            }
        }

        boolean standsAs(Goats other) {
            return place[0] == other.place[0] && place[1] == other.place[1];
        }

        boolean liesAs(Goats other) {
            if (size != other.size) {
                return false;
            }
            for (int i = 0; i < size; i++) {
                if (pathAt(i) != other.pathAt(i)) {
                    return false;
                }
            }
            return true;
        }

        /** How many steps a place is from that place along the rope which is the nearest to it; NONE. */
        int stepsOff(int from) {
            meadow.measureFrom(from);
            int nearest = NONE;
            int along = place[0];
            for (int i = 0; i <= size; i++) {
                int off = isBelow(along, PLACES) ? meadow.steps[along] : NONE;
                if (off != NONE && (nearest == NONE || off < nearest)) {
                    nearest = off;
                }
                if (i < size) {
                    along = meadow.across(pathAt(i), along);
                }
            }
            return nearest;
        }

        /**
         * One number for all of it: a bit that tells where the paths begin, at most 18 of them in three bits
         * each, and where the second goat stands; from there they lead to the first one.
         */
        long asKey() {
            long key = 1;
            for (int i = 0; i < size; i++) {
                key = key << 3 | pathAt(i);
            }
            return key << 3 | place[1];
        }

        void becomeKey(long key) {
            standBoth((int) (key & 7));
            long paths = key >> 3;
            for (int n = 0; n < REACH_MOST && paths > 1; n++) {
                go(0, (int) (paths & 7));
                paths >>= 3;
            }
        }
    }

    /** A day's text, and how far it has been walked. */
    private static final class Day {
        final Meadow meadow;
        final Text text = new Text();
        final Goats goats;
        final int[] ate = new int[2];
        final int[] dragged = new int[2];
        int startPlace = 0;
        int bare = 0;
        int done = 0;

        Day(Meadow meadow) {
            this.meadow = meadow;
            this.goats = new Goats(meadow);
        }

        void walk(int most) {
            goats.standBoth(startPlace);
            Arrays.fill(ate, 0);
            Arrays.fill(dragged, 0);
            bare = 0;
            done = 0;
            while (done < most && done < text.size && doStep(codeOfByte(text.byteAt(done)))) {
                done++;
            }
        }

        private boolean doStep(int code) {
            int goat = code >> 3;
            int path = code & 7;
            if (code == NONE || !goats.canGo(goat, path)) {
                return false;
            }
            goats.go(goat, path);
            if (goats.length > meadow.reach) {
                if (!meadow.isHeavier(goat)) {
                    goats.go(goat, path);
                    return false;
                }
                drag(1 - goat);
            }
            eat(goat);
            return true;
        }

        private void drag(int goat) {
            int most = goats.size;
            for (int n = 0; n < most && goats.length > meadow.reach && isBelow(goat, 2); n++) {
                goats.go(goat, goats.nextTo(goat));
                dragged[goat]++;
            }
        }

        private void eat(int goat) {
            if (isBelow(goat, 2)) {
                int place = goats.place[goat];
                ate[goat] += meadow.worthAt(place, bare);
                bare |= 1 << place;
            }
        }

        int told(int what) {
            switch (what) {
                case 0: return goats.place[0];
                case 1: return goats.place[1];
                case 2: return goats.size;
                case 3: return goats.length;
                case 4: return ate[0];
                case 5: return ate[1];
                case 6: return dragged[0];
                default: return dragged[1];
            }
        }

        /** How long the rope becomes at most, where no reach binds the goats. */
        int longestUnbound() {
            goats.standBoth(startPlace);
            int longest = 0;
            for (int i = 0; i < text.size; i++) {
                int code = codeOfByte(text.byteAt(i));
                if (code == NONE || !goats.canGo(code >> 3, code & 7)) {
                    break;
                }
                goats.go(code >> 3, code & 7);
                longest = Math.max(longest, goats.length);
            }
            return longest;
        }
    }

    /** Looks for the fewest steps, one more at a time, through all ways to stand and to lie. */
    private static final class Search {
        private static final int WAYS_MOST = 1000, SLOTS = 2048;

        final Meadow meadow;
        final Goats goats;
        final long[] ways = new long[WAYS_MOST + 1];
        final int[] slots = new int[SLOTS];
        int known = 0;

        Search(Meadow meadow) {
            this.meadow = meadow;
            this.goats = new Goats(meadow);
        }

        int fewest(Goats from, int first, int second) {
            if (stand(from, first, second)) {
                return 0;
            }
            Arrays.fill(slots, 0);
            known = 0;
            note(from.asKey());
            int begin = 0;
            // Each round but the last finds a way that is new, so there are no more rounds than ways.
            for (int steps = 1; steps <= WAYS_MOST + 1; steps++) {
                int end = known;
                for (int i = begin; i < end && i <= WAYS_MOST; i++) {
                    if (leadsTo(ways[i], first, second)) {
                        return steps;
                    }
                }
                if (known > WAYS_MOST) {
                    return FULL;
                }
                if (known == end) {
                    return NONE;
                }
                begin = end;
            }
            return NONE;
        }

        private static boolean stand(Goats goats, int first, int second) {
            return goats.place[0] == first && goats.place[1] == second;
        }

        /** Whether one step more comes to the places; notes all ways to which it comes. */
        private boolean leadsTo(long way, int first, int second) {
            goats.becomeKey(way);
            for (int step = 0; step < 2 * meadow.paths; step++) {
                int goat = step & 1;
                int path = step >> 1;
                if (!goats.canGo(goat, path)) {
                    continue;
                }
                goats.go(goat, path);
                if (goats.length <= meadow.reach) {
                    if (stand(goats, first, second)) {
                        return true;
                    }
                    note(goats.asKey());
                }
                goats.go(goat, path);
            }
            return false;
        }

        // One way too many is enough to know; what comes behind it is looked at, not kept.
        private void note(long way) {
            if (known > WAYS_MOST) {
                return;
            }
            int slot = (int) (way * 0x9E3779B97F4A7C15L >>> 53) & (SLOTS - 1);
            for (int n = 0; n < SLOTS && slots[slot] != 0; n++) {
                int at = slots[slot] - 1;
                if (isBelow(at, known) && ways[at] == way) {
                    return;
                }
                slot = (slot + 1) & (SLOTS - 1);
            }
            ways[known] = way;
            known++;
            slots[slot] = known;
        }
    }

    /** Both goats step in turn, each against the other. */
    private static final class Turns {
        private static final int BEYOND = 10000;

        final Meadow meadow;
        final Goats goats;
        int bare = 0;
        int chosen = NONE;

        Turns(Meadow meadow) {
            this.meadow = meadow;
            this.goats = new Goats(meadow);
        }

        /** What the first goat gains in n steps; chosen is its first step then. */
        int play(Day day, int n) {
            goats.become(day.goats);
            bare = day.bare;
            return gain(0, n, -BEYOND, BEYOND);
        }

        /**
         * What the goat gains in the steps left. Outside low and high it may answer any number on the same
         * side: the ones who ask take such an answer for no better, or for too good, whatever it is.
         */
        private int gain(int goat, int left, int low, int high) {
            chosen = NONE;
            if (left <= 0 || meadow.worthBeside(bare) == 0) {
                return 0;
            }
            int best = -gain(1 - goat, left - 1, -high, -low);
            int step = NONE;
            for (int path = 0; path < meadow.paths && best < high; path++) {
                if (!goats.canGo(goat, path)) {
                    continue;
                }
                goats.go(goat, path);
                if (goats.length <= meadow.reach) {
                    int gained = gainByStep(goat, left, Math.max(low, best), high);
                    if (gained > best) {
                        best = gained;
                        step = path;
                    }
                }
                goats.go(goat, path);
            }
            chosen = step;
            return best;
        }

        private int gainByStep(int goat, int left, int low, int high) {
            int was = bare;
            int place = isBelow(goat, 2) ? goats.place[goat] : NONE;
            int eaten = meadow.worthAt(place, bare);
            bare |= isBelow(place, PLACES) ? 1 << place : 0;
            int gained = eaten - gain(1 - goat, left - 1, eaten - high, eaten - low);
            bare = was;
            return gained;
        }
    }

    /** A row of items of a form, or a lost one. */
    private static final class Sheet {
        final int[] items = new int[ITEMS_MOST];
        int form = LOST;
        int size = 0;

        void renew(int newForm, int n) {
            Arrays.fill(items, 0);
            form = newForm;
            size = n;
        }

        boolean hasItems(int from, int n) {
            return from >= 0 && n >= 0 && from <= size && n <= size - from;
        }

        /** What is found where item i is asked for as one of a form; 0. */
        int findsAt(int asForm, int i) {
            if (form == LOST) {
                return NULL;
            }
            if (form != asForm) {
                return CAST;
            }
            return isBelow(i, size) ? 0 : INDEX;
        }

        int item(int i) {
            return isBelow(i, size) && isBelow(i, ITEMS_MOST) ? items[i] : 0;
        }

        void put(int i, int v) {
            if (isBelow(i, size) && isBelow(i, ITEMS_MOST)) {
                items[i] = cut(v);
            }
        }

        private int cut(int v) {
            if (form == 0) {
                return (byte) v;
            }
            return form == 1 ? (short) v : v;
        }
    }
}
