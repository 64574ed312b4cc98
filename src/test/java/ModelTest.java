import java.util.ArrayList;
import java.util.HashSet;
import java.util.List;
import java.util.Random;
import java.util.Set;

/**
 * Compares the class with a model that is written another way: ropes are texts, searches go through all that
 * there is. The seeds are told, so every run is the same.
 */
public final class ModelTest {
    private static final int NONE = -1, BAD = -2, NOT = -3, FULL = -4;
    private static final int MEADOWS = 1500;
    private static int wrong = 0;
    private static long asked = 0;

    public static void main(String[] args) {
        for (int seed = 0; seed < MEADOWS; seed++) {
            new ModelTest(seed).run();
        }
        for (int seed = 0; seed < 300; seed++) {
            new SheetModel(seed).run();
        }
        System.out.println(asked + " answers compared, " + wrong + " wrong");
        if (wrong != 0) {
            System.exit(1);
        }
    }

    private static void due(String what, long got, long want) {
        asked++;
        if (got != want) {
            wrong++;
            if (wrong < 50) {
                System.out.println(what + " answered " + got + ", due is " + want);
            }
        }
    }

    /** Where both stand, and the rope as digits. */
    private static final class Way {
        final int first;
        final int second;
        final String rope;

        Way(int first, int second, String rope) {
            this.first = first;
            this.second = second;
            this.rope = rope;
        }

        String told() {
            return first + "/" + second + "/" + rope;
        }
    }

    private final Random random;
    private final int seed;
    private final List<int[]> paths = new ArrayList<>();
    private String meadow = "";
    private final String[] days = {"", ""};
    private final int[] starts = new int[2];
    private final int[] worth = new int[8];
    private final int[] heavy = {5, 5};
    private int reach = 9;

    private Way way;
    private final int[] ate = new int[2];
    private final int[] dragged = new int[2];
    private boolean[] bare = new boolean[8];
    private int done;

    private ModelTest(int seed) {
        this.seed = seed;
        this.random = new Random(seed);
    }

    private void run() {
        TwoGoats x = new TwoGoats();
        makeMeadow();
        setAll(x);
        makeDays();
        for (int day = 0; day < 2; day++) {
            due("start", x.start(day, starts[day]), 0);
            typeAll(x, 1 + day, days[day]);
        }
        typeAll(x, 0, meadow);
        compareMeadow(x);
        for (int day = 0; day < 2; day++) {
            compareDay(x, day);
            compareFromTheEnd(x, day);
        }
        compareAlike(x);
    }

    private static void typeAll(TwoGoats x, int text, String bytes) {
        for (int i = 0; i < bytes.length(); i++) {
            x.type(text, bytes.charAt(i));
        }
    }

    private void makeMeadow() {
        int places = 2 + random.nextInt(7);
        int n = random.nextInt(10) == 0 ? 0 : 1 + random.nextInt(8);
        int yards = 1 + random.nextInt(9);
        StringBuilder text = new StringBuilder();
        for (int p = 0; p < n; p++) {
            int a = random.nextInt(places);
            int b = (a + 1 + random.nextInt(places - 1)) % places;
            text.append(p == 0 ? "" : ";").append(a).append(b).append(1 + random.nextInt(yards));
        }
        if (random.nextInt(12) == 0 && text.length() > 0) {
            text.setCharAt(random.nextInt(text.length()), "0189;:/x".charAt(random.nextInt(8)));
        }
        if (random.nextInt(20) == 0) {
            text.append(";0123456".charAt(random.nextInt(8)));
        }
        meadow = text.toString();
        if (meadow.matches("([0-7][0-7][1-9](;[0-7][0-7][1-9]){0,7})?") && !meadow.matches("(.*;)?(.)\\2.*")) {
            for (int p = 0; 4 * p < meadow.length(); p++) {
                paths.add(new int[] {digit(4 * p), digit(4 * p + 1), digit(4 * p + 2)});
            }
        }
    }

    private int digit(int at) {
        return meadow.charAt(at) - '0';
    }

    private void setAll(TwoGoats x) {
        reach = 1 + random.nextInt(18);
        due("set", x.set(2, reach), 9);
        for (int goat = 0; goat < 2; goat++) {
            heavy[goat] = random.nextInt(10);
            due("set", x.set(goat, heavy[goat]), 5);
        }
        for (int place = 0; place < 8; place++) {
            worth[place] = random.nextInt(3) == 0 ? 0 : random.nextInt(random.nextBoolean() ? 4 : 100);
            due("thistle", x.thistle(place, worth[place]), 0);
        }
        for (int day = 0; day < 2; day++) {
            starts[day] = random.nextInt(random.nextInt(4) == 0 ? 8 : 2);
        }
    }

    private void makeDays() {
        for (int day = 0; day < 2; day++) {
            int length = random.nextInt(random.nextBoolean() ? 41 : 8);
            for (int i = 0; i < length; i++) {
                days[day] += (char) nextByte(day);
            }
        }
        if (random.nextInt(4) == 0) {
            days[1] = days[0];
            starts[1] = starts[0];
        }
    }

    private int nextByte(int day) {
        if (random.nextInt(60) == 0) {
            return random.nextInt(256);
        }
        for (int n = 0; n < 40; n++) {
            int b = (random.nextBoolean() ? 'a' : 'A') + random.nextInt(8);
            String day0 = days[day];
            days[day] += (char) b;
            walk(day, 99);
            boolean goes = done == days[day].length();
            days[day] = day0;
            if (goes) {
                return b;
            }
        }
        return 'a';
    }

    // ---- the model

    private Way stepped(Way from, int goat, int path) {
        if (path >= paths.size()) {
            return null;
        }
        int[] ends = paths.get(path);
        int at = goat == 0 ? from.first : from.second;
        if (ends[0] != at && ends[1] != at) {
            return null;
        }
        int to = ends[0] + ends[1] - at;
        String rope = (goat == 0 ? path + from.rope : from.rope + path);
        rope = rope.replace("" + path + path, "");
        return goat == 0 ? new Way(to, from.second, rope) : new Way(from.first, to, rope);
    }

    private int length(String rope) {
        int sum = 0;
        for (char c : rope.toCharArray()) {
            sum += paths.get(c - '0')[2];
        }
        return sum;
    }

    private static int goatOf(char c) {
        return c >= 'a' ? 0 : 1;
    }

    private static boolean isStep(char c) {
        return "abcdefghABCDEFGH".indexOf(c) >= 0;
    }

    private static int pathOf(char c) {
        return "abcdefgh".indexOf(Character.toLowerCase(c));
    }

    private void walk(int day, int most) {
        way = new Way(starts[day], starts[day], "");
        bare = new boolean[8];
        for (int goat = 0; goat < 2; goat++) {
            ate[goat] = 0;
            dragged[goat] = 0;
        }
        for (done = 0; done < most && done < days[day].length(); done++) {
            char c = days[day].charAt(done);
            Way to = isStep(c) ? stepped(way, goatOf(c), pathOf(c)) : null;
            int goat = goatOf(c);
            if (to == null || length(to.rope) > reach && heavy[goat] <= heavy[1 - goat]) {
                return;
            }
            int place = goat == 0 ? to.first : to.second;
            while (length(to.rope) > reach) {
                char end = goat == 0 ? to.rope.charAt(to.rope.length() - 1) : to.rope.charAt(0);
                to = stepped(to, 1 - goat, end - '0');
                dragged[1 - goat]++;
            }
            way = to;
            ate[goat] += bare[place] ? 0 : worth[place];
            bare[place] = true;
        }
    }

    private int needs(int day) {
        Way at = new Way(starts[day], starts[day], "");
        int most = 0;
        for (char c : days[day].toCharArray()) {
            at = isStep(c) ? stepped(at, goatOf(c), pathOf(c)) : null;
            if (at == null) {
                return most;
            }
            most = Math.max(most, length(at.rope));
        }
        return most;
    }

    private int soon(Way from, int first, int second) {
        Set<String> known = new HashSet<>();
        List<Way> ring = new ArrayList<>();
        ring.add(from);
        known.add(from.told());
        for (int steps = 0; !ring.isEmpty(); steps++) {
            for (Way w : ring) {
                if (w.first == first && w.second == second) {
                    return steps;
                }
            }
            if (known.size() > 1000) {
                return FULL;
            }
            ring = nextRing(ring, known, reach);
        }
        return NONE;
    }

    private List<Way> nextRing(List<Way> ring, Set<String> known, int most) {
        List<Way> next = new ArrayList<>();
        for (Way w : ring) {
            for (int step = 0; step < 16; step++) {
                Way to = stepped(w, step / 8, step % 8);
                if (to != null && length(to.rope) <= most && known.add(to.told())) {
                    next.add(to);
                }
            }
        }
        return next;
    }

    /** Back from where they lie, without any reach; FULL where this comes to too many ways. */
    private int began(Way end, int place) {
        Set<String> known = new HashSet<>();
        List<Way> ring = new ArrayList<>();
        ring.add(end);
        known.add(end.told());
        for (int steps = 0; !ring.isEmpty(); steps++) {
            for (Way w : ring) {
                if (w.first == place && w.second == place && w.rope.isEmpty()) {
                    return steps;
                }
            }
            if (known.size() > 3000) {
                return FULL;
            }
            ring = nextRing(ring, known, 1000);
        }
        return NONE;
    }

    private int[] game(Way at, boolean[] eaten, int goat, int left) {
        if (left == 0) {
            return new int[] {0, NONE};
        }
        int best = -game(at, eaten, 1 - goat, left - 1)[0];
        int step = NONE;
        for (int path = 0; path < paths.size(); path++) {
            Way to = stepped(at, goat, path);
            if (to == null || length(to.rope) > reach) {
                continue;
            }
            int place = goat == 0 ? to.first : to.second;
            boolean[] then = eaten.clone();
            then[place] = true;
            int gain = (eaten[place] ? 0 : worth[place]) - game(to, then, 1 - goat, left - 1)[0];
            if (gain > best) {
                best = gain;
                step = path;
            }
        }
        return new int[] {best, step};
    }

    private int pulled(String rope, int a, int b, int what) {
        if (a < 0 || b < 0 || a >= paths.size() || b >= paths.size() || a == b || what < 0 || what > 1) {
            return BAD;
        }
        int[] one = paths.get(a);
        int[] other = paths.get(b);
        if (!(one[0] == other[0] && one[1] == other[1] || one[0] == other[1] && one[1] == other[0])) {
            return NOT;
        }
        int kept = one[2] < other[2] || one[2] == other[2] && a < b ? a : b;
        String lies = rope.replace((char) ('0' + a), (char) ('0' + kept)).replace((char) ('0' + b), (char) ('0' + kept));
        for (int n = 0; n < 50; n++) {
            lies = lies.replaceFirst("(.)\\1", "");
        }
        return what == 0 ? lies.length() : length(lies);
    }

    // ---- what is compared

    private void compareMeadow(TwoGoats x) {
        due("seed " + seed + " paths", x.count(0), paths.size());
        due("seed " + seed + " is well", x.fault() == NONE ? 1 : 0, paths.size() > 0 || meadow.isEmpty() ? 1 : 0);
        for (int p = 0; p < paths.size(); p++) {
            for (int what = 0; what < 3; what++) {
                due("seed " + seed + " path", x.path(p, what), paths.get(p)[what]);
            }
        }
    }

    private void compareDay(TwoGoats x, int day) {
        String run = "seed " + seed + " day " + day;
        walk(day, 99);
        int all = done;
        due(run + " judged", x.judged(day), all < days[day].length() ? all : NONE);
        due(run + " count", x.count(6 + day), all);
        due(run + " needs", x.needs(day), needs(day));
        due(run + " state beyond", x.state(day, all + 1, 0), BAD);
        due(run + " rope beyond", x.rope(day, all + 1, 0), BAD);
        for (int k = 0; k <= all; k++) {
            walk(day, k);
            int[] want = {
                way.first, way.second, way.rope.length(), length(way.rope), ate[0], ate[1], dragged[0], dragged[1],
            };
            for (int what = 0; what < 8; what++) {
                due(run + " state " + k + " " + what, x.state(day, k, what), want[what]);
            }
            for (int i = 0; i <= way.rope.length(); i++) {
                int path = i < way.rope.length() ? way.rope.charAt(i) - '0' : NONE;
                due(run + " rope " + k + " " + i, x.rope(day, k, i), path);
            }
        }
    }

    private void compareFromTheEnd(TwoGoats x, int day) {
        String run = "seed " + seed + " day " + day;
        walk(day, 99);
        due(run + " loose", x.loose(day), way.rope.length());
        for (int n = 0; n < 3; n++) {
            int first = random.nextInt(8);
            int second = random.nextInt(8);
            due(run + " soon " + first + second, x.soon(day, first, second), soon(way, first, second));
            int place = random.nextInt(8);
            int began = began(way, place);
            if (began != FULL) {
                due(run + " began " + place, x.began(day, place), began);
            }
        }
        for (int n = 1; n <= (seed % 10 == 0 ? 5 : 3); n++) {
            int[] want = game(way, bare, 0, n);
            due(run + " game " + n, x.game(day, n, 0), want[0]);
            due(run + " first step of game " + n, x.game(day, n, 1), want[1]);
        }
        for (int a = -1; a < 9; a++) {
            for (int b = -1; b < 9; b++) {
                for (int what = -1; what < 3; what++) {
                    due(run + " pulled " + a + b, x.pulled(day, a, b, what), pulled(way.rope, a, b, what));
                }
            }
        }
    }

    private void compareAlike(TwoGoats x) {
        walk(0, 99);
        Way one = way;
        walk(1, 99);
        int want = one.told().equals(way.told()) ? 1 : one.first == way.first && one.second == way.second ? 2 : 0;
        due("seed " + seed + " alike", x.alike(), want);
    }

    /** Rows as arrays of their own forms; calls of all kinds on them, wrong ones too. */
    private static final class SheetModel {
        private final Random random;
        private final TwoGoats x = new TwoGoats();
        private final Object[] rows = new Object[4];
        private int finding = 0;

        SheetModel(int seed) {
            random = new Random(seed);
        }

        void run() {
            for (int n = 0; n < 160; n++) {
                int s = random.nextInt(20) == 0 ? random.nextInt(8) - 2 : random.nextInt(4);
                int form = random.nextInt(20) == 0 ? random.nextInt(6) - 2 : random.nextInt(3);
                switch (random.nextInt(6)) {
                    case 0: sheet(s, form, random.nextInt(20) == 0 ? 61 : random.nextInt(63) - 2); break;
                    case 1: lose(s); break;
                    case 2: case 3: copy(s, random.nextInt(4)); break;
                    default: layAndGet(s, rowForm(s, form), number(), random.nextInt());
                }
                due("count 8", x.count(8), finding);
            }
        }

        private int number() {
            int n = random.nextInt(30);
            return n == 0 ? Integer.MAX_VALUE : n == 1 ? Integer.MIN_VALUE : random.nextInt(64) - 2;
        }

        private int rowForm(int s, int form) {
            return s < 0 || s > 3 || random.nextInt(4) == 0 ? form : formOf(rows[s]);
        }

        private static int formOf(Object row) {
            return row instanceof byte[] ? 0 : row instanceof short[] ? 1 : 2;
        }

        private static int sizeOf(Object row) {
            return java.lang.reflect.Array.getLength(row);
        }

        private int find(int number) {
            finding = number;
            return -10 - number;
        }

        private void sheet(int s, int form, int n) {
            int want = n;
            if (s < 0 || s > 3 || form < 0 || form > 2 || n > 60) {
                want = BAD;
            } else if (n < 0) {
                want = find(5);
            } else {
                rows[s] = form == 0 ? new byte[n] : form == 1 ? (Object) new short[n] : new int[n];
            }
            due("sheet", x.sheet(s, form, n), want);
        }

        private void lose(int s) {
            int want = BAD;
            if (s >= 0 && s < 4) {
                want = rows[s] == null ? find(1) : sizeOf(rows[s]);
                rows[s] = null;
            }
            due("lose", x.lose(s), want);
        }

        private int refused(int s, int form, int i) {
            if (s < 0 || s > 3 || form < 0 || form > 2) {
                return BAD;
            }
            if (rows[s] == null) {
                return find(1);
            }
            if (formOf(rows[s]) != form) {
                return find(3);
            }
            return i < 0 || i >= sizeOf(rows[s]) ? find(2) : 1;
        }

        private void layAndGet(int s, int form, int i, int v) {
            int want = refused(s, form, i);
            due("lay", x.lay(s, form, i, v), want);
            if (want == 1) {
                switch (form) {
                    case 0: ((byte[]) rows[s])[i] = (byte) v; break;
                    case 1: ((short[]) rows[s])[i] = (short) v; break;
                    default: ((int[]) rows[s])[i] = v;
                }
            }
            due("get", x.get(s, form, i), want == 1 ? itemOf(rows[s], i) : Integer.MIN_VALUE);
        }

        private static int itemOf(Object row, int i) {
            return java.lang.reflect.Array.getInt(row, i);
        }

        private void copy(int s, int t) {
            int i = number();
            int j = number();
            int n = random.nextInt(3) == 0 ? number() : random.nextInt(10);
            int want = BAD;
            if (s >= 0 && s < 4) {
                want = 1;
                try {
                    System.arraycopy(rows[s], i, rows[t], j, n);
                } catch (NullPointerException e) {
                    want = find(1);
                } catch (ArrayStoreException e) {
                    want = find(4);
                } catch (IndexOutOfBoundsException e) {
                    want = find(2);
                }
            }
            due("copy", x.copy(s, i, t, j, n), want);
            for (int at = 0; want == 1 && at < sizeOf(rows[t]); at++) {
                due("copied item", x.get(t, formOf(rows[t]), at), itemOf(rows[t], at));
            }
        }
    }
}
