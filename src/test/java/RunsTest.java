import java.util.ArrayDeque;
import java.util.ArrayList;
import java.util.Arrays;
import java.util.HashSet;
import java.util.List;
import java.util.Random;
import java.util.Set;

/**
 * Runs of 512 calls of all kinds, mixed, each answer compared with a model that keeps nothing but what has been told
 * to it and works all answers out anew. It was read from the document apart from the class and from ModelTest; what
 * one call leaves behind for the next is held here. The seeds are told, so every run is the same.
 */
public final class RunsTest {
    private static final int RUNS = 400, CALLS = 512;
    private static int wrong = 0;
    private static int compared = 0;

    public static void main(String[] args) {
        for (int seed = 0; seed < RUNS; seed++) {
            new RunsTest(seed).run();
        }
        System.out.println(compared + " answers of mixed calls compared, " + wrong + " wrong");
        if (wrong != 0) {
            System.exit(1);
        }
    }

    private final Random random;
    private final TwoGoats x = new TwoGoats();
    private final Model model = new Model();
    private final List<String> calls = new ArrayList<>();

    private RunsTest(int seed) {
        random = new Random(1000 + seed);
        calls.add("seed " + seed);
    }

    private void run() {
        int before = wrong;
        typeMeadow();
        while (calls.size() <= CALLS && wrong == before) {
            mixedCall();
        }
        if (wrong != before) {
            System.out.println(String.join(" ", calls));
        }
    }

    private void due(String call, long got, long want) {
        calls.add(call);
        compared++;
        if (got != want) {
            wrong++;
            System.out.println(call + " answered " + got + ", due is " + want);
        }
    }

    // ---- which calls are made

    private int below(int n) {
        return random.nextInt(n);
    }

    /** A number from 0 to most, now and then one that is not as told. */
    private int about(int most) {
        switch (below(40)) {
            case 0: return -1;
            case 1: return most + 1;
            case 2: return random.nextInt();
            default: return below(most + 1);
        }
    }

    private void type(int text, int b) {
        due("type(" + text + "," + b + ")", x.type(text, b), model.type(text, b));
    }

    private void typeMeadow() {
        int places = 2 + below(4);
        int n = 1 + below(8);
        int yards = 1 + below(9);
        for (int p = 0; p < n; p++) {
            int a = below(places);
            int b = (a + 1 + below(places - 1)) % places;
            for (char c : ((p == 0 ? "" : ";") + a + b + (1 + below(yards))).toCharArray()) {
                type(0, below(400) == 0 ? below(256) : c);
            }
        }
    }

    private void typeStep() {
        int day = below(2);
        Walk end = model.walk(day, 99);
        int b = "abcdefghABCDEFGH".charAt(below(16));
        for (int n = 0; n < 30 && model.stepped(end, b) == null; n++) {
            b = "abcdefghABCDEFGH".charAt(below(16));
        }
        type(1 + day, below(80) == 0 ? below(256) : b);
    }

    private void mixedCall() {
        int kind = below(1000);
        if (kind < 380) {
            typeStep();
        } else if (kind < 460) {
            undo();
        } else if (kind < 480) {
            changeTexts();
        } else if (kind < 540) {
            set();
        } else if (kind < 760) {
            ask();
        } else if (kind < 990) {
            sheets();
        } else {
            due("digest()", x.digest(), model.digest());
        }
    }

    private void undo() {
        int day = about(1);
        due("undo(" + day + ")", x.undo(day), model.undo(day));
    }

    private void changeTexts() {
        switch (below(6)) {
            case 0:
                due("wipe(0)", x.wipe(0), model.wipe(0));
                typeMeadow();
                break;
            case 1: case 2:
                int text = below(3) == 0 ? about(2) : 1 + below(2);
                due("wipe(" + text + ")", x.wipe(text), model.wipe(text));
                break;
            case 3:
                for (char c : ";011".substring(0, 1 + below(4)).toCharArray()) {
                    type(0, c);
                }
                break;
            default:
                type(about(2), about(255));
        }
    }

    private void set() {
        if (below(3) == 0) {
            int day = about(1);
            int place = below(2) == 0 ? about(7) : below(3);
            due("start(" + day + "," + place + ")", x.start(day, place), model.start(day, place));
        } else if (below(2) == 0) {
            int what = about(2);
            int v = what == 2 ? about(18) : about(9);
            due("set(" + what + "," + v + ")", x.set(what, v), model.set(what, v));
        } else {
            int place = about(7);
            int v = about(99);
            due("thistle(" + place + "," + v + ")", x.thistle(place, v), model.thistle(place, v));
        }
    }

    private void ask() {
        int day = about(1);
        int k = about(12);
        int place = about(5);
        int to = about(5);
        switch (below(14)) {
            case 0: due("fault()", x.fault(), model.fault()); break;
            case 1: due("path(" + k + "," + place + ")", x.path(k, place), model.path(k, place)); break;
            case 2: due("judged(" + day + ")", x.judged(day), model.judged(day)); break;
            case 3: case 4:
                due("state(" + day + "," + k + "," + to + ")", x.state(day, k, to), model.state(day, k, to));
                break;
            case 5:
                due("rope(" + day + "," + k + "," + place + ")", x.rope(day, k, place), model.rope(day, k, place));
                break;
            case 6: due("needs(" + day + ")", x.needs(day), model.needs(day)); break;
            case 7:
                due("soon(" + day + "," + place + "," + to + ")", x.soon(day, place, to), model.soon(day, place, to));
                break;
            case 8: due("loose(" + day + ")", x.loose(day), model.loose(day)); break;
            case 9: pulled(day); break;
            case 10: due("began(" + day + "," + place + ")", x.began(day, place), model.began(day, place)); break;
            case 11:
                int what = about(1);
                due("game(" + day + "," + to + "," + what + ")", x.game(day, to, what), model.game(day, to, what));
                break;
            case 12: due("alike()", x.alike(), model.alike()); break;
            default:
                int of = about(8);
                due("count(" + of + ")", x.count(of), model.count(of));
        }
    }

    private void pulled(int day) {
        int a = about(5);
        int b = about(5);
        int what = about(1);
        due("pulled(" + day + "," + a + "," + b + "," + what + ")", x.pulled(day, a, b, what),
            model.pulled(day, a, b, what));
    }

    private void sheets() {
        int s = about(3);
        int form = model.likelyForm(s, about(2));
        int i = below(3) == 0 ? about(60) : about(6);
        switch (below(9)) {
            case 0:
                due("sheet(" + s + "," + form + "," + i + ")", x.sheet(s, form, i), model.sheet(s, form, i));
                break;
            case 1:
                int lost = below(3) == 0 ? s : 3;
                due("lose(" + lost + ")", x.lose(lost), model.lose(lost));
                break;
            case 2: case 3:
                int v = below(3) == 0 ? random.nextInt() : about(16);
                due("lay(" + s + "," + form + "," + i + "," + v + ")", x.lay(s, form, i, v), model.lay(s, form, i, v));
                break;
            case 4: case 5:
                due("get(" + s + "," + form + "," + i + ")", x.get(s, form, i), model.get(s, form, i));
                break;
            case 6:
                int t = about(3);
                int j = about(6);
                int n = about(6);
                due("copy(" + s + "," + i + "," + t + "," + j + "," + n + ")", x.copy(s, i, t, j, n),
                    model.copy(s, i, t, j, n));
                break;
            case 7:
                int day = about(1);
                due("write(" + day + "," + s + ")", x.write(day, s), model.write(day, s));
                break;
            default:
                int to = about(1);
                due("read(" + s + "," + to + ")", x.read(s, to), model.read(s, to));
        }
        due("count(8)", x.count(8), model.count(8));
    }

    // ---- the model

    /** Where a day stands: places, rope (digits, the first goat's end first), eaten, dragged, bare places. */
    private static final class Walk {
        final int[] place = new int[2];
        String rope = "";
        final int[] ate = new int[2];
        final int[] dragged = new int[2];
        String bare = "";
        int done = 0;

        Walk(int both) {
            Arrays.fill(place, both);
        }

        Walk(Walk other) {
            System.arraycopy(other.place, 0, place, 0, 2);
            System.arraycopy(other.ate, 0, ate, 0, 2);
            System.arraycopy(other.dragged, 0, dragged, 0, 2);
            rope = other.rope;
            bare = other.bare;
            done = other.done;
        }

        String way() {
            return place[0] + "," + place[1] + "," + rope;
        }

        /** The path of a goat comes to its end of the rope, or is taken up there. */
        void goes(int goat, int path, int to) {
            String digit = String.valueOf(path);
            if (goat == 0) {
                rope = rope.startsWith(digit) ? rope.substring(1) : digit + rope;
            } else {
                rope = rope.endsWith(digit) ? rope.substring(0, rope.length() - 1) : rope + digit;
            }
            place[goat] = to;
        }
    }

    private static final class Model {
        private static final int BAD = -2, LEAST = Integer.MIN_VALUE;

        private final String[] texts = {"", "", ""};
        private final int[] starts = new int[2];
        private final int[] sets = {5, 5, 9};
        private final int[] worth = new int[8];
        private final int[][] rows = new int[4][];
        private final int[] forms = new int[4];
        private int finding = 0;

        private static boolean isOf(int v, int most) {
            return 0 <= v && v <= most;
        }

        private int find(int number) {
            finding = number;
            return -10 - number;
        }

        // ---- meadow, days

        int type(int text, int b) {
            if (!isOf(text, 2) || !isOf(b, 255)) {
                return BAD;
            }
            if (texts[text].length() == 40) {
                return -4;
            }
            texts[text] += (char) b;
            return texts[text].length();
        }

        int wipe(int text) {
            if (!isOf(text, 2)) {
                return BAD;
            }
            int had = texts[text].length();
            texts[text] = "";
            return had;
        }

        /** Byte by byte: what may come next hangs on what came since the last ; and on how many there were. */
        int fault() {
            String text = texts[0];
            String part = "";
            int parts = 0;
            for (int i = 0; i < text.length(); i++) {
                char c = text.charAt(i);
                boolean goesOn;
                if (part.length() == 3) {
                    goesOn = c == ';';
                } else if (part.length() == 2) {
                    goesOn = "123456789".indexOf(c) >= 0;
                } else {
                    goesOn = parts < 8 && "01234567".indexOf(c) >= 0 && part.indexOf(c) < 0;
                }
                if (!goesOn) {
                    return i;
                }
                parts += c == ';' ? 1 : 0;
                part = c == ';' ? "" : part + c;
            }
            return text.isEmpty() || part.length() == 3 ? -1 : text.length();
        }

        private String[] paths() {
            return texts[0].isEmpty() || fault() != -1 ? new String[0] : texts[0].split(";");
        }

        int path(int path, int what) {
            String[] paths = paths();
            return isOf(path, paths.length - 1) && isOf(what, 2) ? paths[path].charAt(what) - '0' : BAD;
        }

        int start(int day, int place) {
            if (!isOf(day, 1) || !isOf(place, 7)) {
                return BAD;
            }
            int was = starts[day];
            starts[day] = place;
            return was;
        }

        int set(int what, int v) {
            if (!isOf(what, 2) || !(what == 2 ? v >= 1 && v <= 18 : isOf(v, 9))) {
                return BAD;
            }
            int was = sets[what];
            sets[what] = v;
            return was;
        }

        int thistle(int place, int v) {
            if (!isOf(place, 7) || !isOf(v, 99)) {
                return BAD;
            }
            int was = worth[place];
            worth[place] = v;
            return was;
        }

        int read(int s, int day) {
            if (!isOf(s, 3) || !isOf(day, 1)) {
                return BAD;
            }
            if (rows[s] == null) {
                return find(1);
            }
            String steps = "";
            for (int item : rows[s]) {
                if (!isOf(item, 15) || steps.length() == 40) {
                    break;
                }
                steps += "abcdefghABCDEFGH".charAt(item);
            }
            texts[1 + day] = steps;
            return steps.length();
        }

        int undo(int day) {
            if (!isOf(day, 1)) {
                return BAD;
            }
            String text = texts[1 + day];
            if (text.isEmpty()) {
                return -3;
            }
            texts[1 + day] = text.substring(0, text.length() - 1);
            return text.length() - 1;
        }

        // ---- what becomes

        /** A step without a reach; null where it is none, is not there, or is not at the goat's place. */
        Walk stepped(Walk from, int b) {
            int goat = b >= 'a' ? 0 : 1;
            int path = goat == 0 ? b - 'a' : b - 'A';
            String[] paths = paths();
            if (!isOf(path, paths.length - 1)) {
                return null;
            }
            int ends = paths[path].substring(0, 2).indexOf('0' + from.place[goat]);
            if (ends < 0) {
                return null;
            }
            Walk to = new Walk(from);
            to.goes(goat, path, paths[path].charAt(1 - ends) - '0');
            to.done++;
            return to;
        }

        private Walk borne(Walk from, int b) {
            Walk to = stepped(from, b);
            return to == null || yards(to.rope) > sets[2] ? null : to;
        }

        private int yards(String rope) {
            String[] paths = paths();
            return rope.chars().map(digit -> paths[digit - '0'].charAt(2) - '0').sum();
        }

        private Walk eats(Walk at, int goat) {
            String place = String.valueOf(at.place[goat]);
            if (!at.bare.contains(place)) {
                at.ate[goat] += worth[at.place[goat]];
                at.bare += place;
            }
            return at;
        }

        private Walk dayStep(Walk from, int b) {
            int goat = b >= 'a' ? 0 : 1;
            Walk to = borne(from, b);
            if (to == null && sets[goat] > sets[1 - goat]) {
                to = stepped(from, b);
                while (to != null && yards(to.rope) > sets[2]) {
                    char end = to.rope.charAt(goat == 0 ? to.rope.length() - 1 : 0);
                    int done = to.done;
                    to = stepped(to, (goat == 0 ? 'A' : 'a') + end - '0');
                    to.done = done;
                    to.dragged[1 - goat]++;
                }
            }
            return to == null ? null : eats(to, goat);
        }

        Walk walk(int day, int most) {
            Walk at = new Walk(starts[day]);
            for (char c : texts[1 + day].toCharArray()) {
                Walk to = at.done < most ? dayStep(at, c) : null;
                if (to == null) {
                    break;
                }
                at = to;
            }
            return at;
        }

        int judged(int day) {
            if (!isOf(day, 1)) {
                return BAD;
            }
            int done = walk(day, 99).done;
            return done == texts[1 + day].length() ? -1 : done;
        }

        int state(int day, int k, int what) {
            if (!isOf(day, 1) || !isOf(what, 7) || !isOf(k, walk(day, 99).done)) {
                return BAD;
            }
            Walk at = walk(day, k);
            return new int[] {at.place[0], at.place[1], at.rope.length(), yards(at.rope), at.ate[0], at.ate[1],
                at.dragged[0], at.dragged[1]}[what];
        }

        int rope(int day, int k, int i) {
            if (!isOf(day, 1) || i < 0 || !isOf(k, walk(day, 99).done)) {
                return BAD;
            }
            String rope = walk(day, k).rope;
            return i < rope.length() ? rope.charAt(i) - '0' : -1;
        }

        /** Tried reach by reach, with goats that are as heavy as each other; 40 paths of 9 yards are the most. */
        int needs(int day) {
            if (!isOf(day, 1)) {
                return BAD;
            }
            for (int reach = 0; reach <= 360; reach++) {
                Walk at = new Walk(starts[day]);
                boolean bears = true;
                for (char c : texts[1 + day].toCharArray()) {
                    at = stepped(at, c);
                    if (at == null) {
                        break;
                    }
                    bears &= yards(at.rope) <= reach;
                }
                if (bears) {
                    return reach;
                }
            }
            return BAD;
        }

        // ---- from where a day ends

        int soon(int day, int first, int second) {
            if (!isOf(day, 1) || !isOf(first, 7) || !isOf(second, 7)) {
                return BAD;
            }
            Set<String> ways = new HashSet<>();
            ArrayDeque<Walk> next = new ArrayDeque<>();
            next.add(walk(day, 99));
            ways.add(next.peek().way());
            for (int steps = 0; !next.isEmpty(); steps++) {
                if (next.stream().anyMatch(at -> at.place[0] == first && at.place[1] == second)) {
                    return steps;
                }
                if (ways.size() > 1000) {
                    return -4;
                }
                for (int n = next.size(); n > 0; n--) {
                    Walk from = next.remove();
                    for (char step : "aAbBcCdDeEfFgGhH".toCharArray()) {
                        Walk to = borne(from, step);
                        if (to != null && ways.add(to.way())) {
                            next.add(to);
                        }
                    }
                }
            }
            return -1;
        }

        int loose(int day) {
            return isOf(day, 1) ? walk(day, 99).rope.length() : BAD;
        }

        int pulled(int day, int a, int b, int what) {
            String[] paths = paths();
            if (!isOf(day, 1) || !isOf(a, paths.length - 1) || !isOf(b, paths.length - 1) || a == b) {
                return BAD;
            }
            if (!isOf(what, 1)) {
                return BAD;
            }
            String ends = paths[a].substring(0, 2);
            String turned = new StringBuilder(ends).reverse().toString();
            if (!paths[b].startsWith(ends) && !paths[b].startsWith(turned)) {
                return -3;
            }
            int kept = paths[a].charAt(2) < paths[b].charAt(2) ? a : b;
            String lies = "";
            for (char c : walk(day, 99).rope.toCharArray()) {
                String path = c - '0' == a || c - '0' == b ? String.valueOf(kept) : String.valueOf(c);
                lies = lies.endsWith(path) ? lies.substring(0, lies.length() - 1) : lies + path;
            }
            return what == 0 ? lies.length() : yards(lies);
        }

        /**
         * Both go together (two steps a path) until they part for good; from then on each step lays a path of the
         * rope. The place where they part is one of those along the rope.
         */
        int began(int day, int place) {
            if (!isOf(day, 1) || !isOf(place, 7)) {
                return BAD;
            }
            String[] paths = paths();
            int[][] far = distances(paths);
            Walk end = walk(day, 99);
            int along = end.place[0];
            int least = far[place][along];
            for (char c : end.rope.toCharArray()) {
                String path = paths[c - '0'];
                along = path.charAt(0) - '0' + path.charAt(1) - '0' - along;
                least = Math.min(least, far[place][along]);
            }
            return least >= 99 ? -1 : 2 * least + end.rope.length();
        }

        private static int[][] distances(String[] paths) {
            int[][] far = new int[8][8];
            for (int a = 0; a < 8; a++) {
                Arrays.fill(far[a], 99);
                far[a][a] = 0;
            }
            for (String path : paths) {
                int a = path.charAt(0) - '0';
                int b = path.charAt(1) - '0';
                far[a][b] = 1;
                far[b][a] = 1;
            }
            for (int by = 0; by < 8; by++) {
                for (int a = 0; a < 8; a++) {
                    for (int b = 0; b < 8; b++) {
                        far[a][b] = Math.min(far[a][b], far[a][by] + far[by][b]);
                    }
                }
            }
            return far;
        }

        int game(int day, int n, int what) {
            if (!isOf(day, 1) || n < 1 || n > 5 || !isOf(what, 1)) {
                return -10002;
            }
            Walk end = walk(day, 99);
            Arrays.fill(end.ate, 0);
            if (what == 0) {
                return atTheEnd(end, 0, n);
            }
            int best = atTheEnd(end, 0, n);
            if (atTheEnd(end, 1, n - 1) == best) {
                return -1;
            }
            for (int path = 0; path < 8; path++) {
                Walk to = borne(end, 'a' + path);
                if (to != null && atTheEnd(eats(to, 0), 1, n - 1) == best) {
                    return path;
                }
            }
            return BAD;
        }

        /** What the first goat has eaten at the end less what the second one has. */
        private int atTheEnd(Walk at, int goat, int left) {
            if (left == 0) {
                return at.ate[0] - at.ate[1];
            }
            int best = atTheEnd(at, 1 - goat, left - 1);
            for (int path = 0; path < 8; path++) {
                Walk to = borne(at, (goat == 0 ? 'a' : 'A') + path);
                if (to != null) {
                    int then = atTheEnd(eats(to, goat), 1 - goat, left - 1);
                    best = goat == 0 ? Math.max(best, then) : Math.min(best, then);
                }
            }
            return best;
        }

        int alike() {
            Walk one = walk(0, 99);
            Walk other = walk(1, 99);
            if (!Arrays.equals(one.place, other.place)) {
                return 0;
            }
            return one.rope.equals(other.rope) ? 1 : 2;
        }

        // ---- sheets

        int likelyForm(int s, int form) {
            return isOf(s, 3) && rows[s] != null && form == 0 ? forms[s] : form;
        }

        private static int cut(int form, int v) {
            return form == 0 ? v << 24 >> 24 : form == 1 ? v << 16 >> 16 : v;
        }

        int sheet(int s, int form, int n) {
            if (!isOf(s, 3) || !isOf(form, 2) || n > 60) {
                return BAD;
            }
            if (n < 0) {
                return find(5);
            }
            rows[s] = new int[n];
            forms[s] = form;
            return n;
        }

        int lose(int s) {
            if (!isOf(s, 3)) {
                return BAD;
            }
            if (rows[s] == null) {
                return find(1);
            }
            int had = rows[s].length;
            rows[s] = null;
            return had;
        }

        private int findAt(int s, int form, int i) {
            if (!isOf(s, 3) || !isOf(form, 2)) {
                return BAD;
            }
            if (rows[s] == null) {
                return find(1);
            }
            if (forms[s] != form) {
                return find(3);
            }
            return isOf(i, rows[s].length - 1) ? 0 : find(2);
        }

        int lay(int s, int form, int i, int v) {
            int refused = findAt(s, form, i);
            if (refused != 0) {
                return refused;
            }
            rows[s][i] = cut(form, v);
            return 1;
        }

        int get(int s, int form, int i) {
            return findAt(s, form, i) != 0 ? LEAST : rows[s][i];
        }

        int copy(int s, int i, int t, int j, int n) {
            if (!isOf(s, 3) || !isOf(t, 3)) {
                return BAD;
            }
            if (rows[s] == null || rows[t] == null) {
                return find(1);
            }
            if (forms[s] != forms[t]) {
                return find(4);
            }
            if (i < 0 || j < 0 || n < 0 || (long) i + n > rows[s].length || (long) j + n > rows[t].length) {
                return find(2);
            }
            int[] were = rows[s].clone();
            for (int k = 0; k < n; k++) {
                rows[t][j + k] = were[i + k];
            }
            return 1;
        }

        int write(int day, int s) {
            if (!isOf(day, 1) || !isOf(s, 3)) {
                return BAD;
            }
            if (rows[s] == null) {
                return find(1);
            }
            String rope = walk(day, 99).rope;
            int n = 0;
            for (; n < rope.length() && n < rows[s].length; n++) {
                rows[s][n] = rope.charAt(n) - '0';
            }
            return n;
        }

        int count(int what) {
            if (!isOf(what, 8)) {
                return BAD;
            }
            int yards = 0;
            for (String path : paths()) {
                yards += path.charAt(2) - '0';
            }
            return new int[] {paths().length, texts[0].length(), texts[1].length(), texts[2].length(), yards,
                Arrays.stream(worth).sum(), walk(0, 99).done, walk(1, 99).done, finding}[what];
        }

        long digest() {
            List<Integer> told = new ArrayList<>();
            for (int what = 0; what <= 7; what++) {
                told.add(count(what));
            }
            told.add(fault());
            for (int p = 0; p < paths().length; p++) {
                told.addAll(List.of(path(p, 0), path(p, 1), path(p, 2)));
            }
            for (int day = 0; day < 2; day++) {
                int done = walk(day, 99).done;
                told.add(judged(day));
                for (int what = 0; what <= 7; what++) {
                    told.add(state(day, done, what));
                }
                told.addAll(List.of(rope(day, done, 0), needs(day), soon(day, 0, 1), soon(day, 2, 2), loose(day)));
                told.addAll(List.of(began(day, 0), began(day, 1), game(day, 3, 0), game(day, 3, 1)));
            }
            told.addAll(List.of(pulled(0, 0, 1, 0), pulled(0, 0, 1, 1), alike()));
            long h = 17;
            for (int one : told) {
                h = 31 * h + one;
            }
            return h;
        }
    }
}
