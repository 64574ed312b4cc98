/** For each promise of the document: ordinary inputs, the edges that it names, and wrong inputs. */
public final class PromisesTest {
    private static final int LEAST_INT = Integer.MIN_VALUE;
    private static final String TRIANGLE = "012;013;122;203";
    private static int wrong = 0;

    public static void main(String[] args) {
        newObject();
        typeAndWipe();
        fault();
        path();
        startAndSet();
        thistle();
        read();
        undo();
        judged();
        state();
        dragging();
        thistlesEaten();
        rope();
        needs();
        soon();
        soonFull();
        loose();
        pulled();
        began();
        game();
        alike();
        sheetAndLose();
        layAndGet();
        copy();
        write();
        count();
        digest();
        System.out.println(wrong == 0 ? "all promises hold" : wrong + " answers are not as due");
        if (wrong != 0) {
            System.exit(1);
        }
    }

    private static void due(String what, long got, long want) {
        if (got != want) {
            wrong++;
            System.out.println(what + " answered " + got + ", due is " + want);
        }
    }

    private static void typeAll(TwoGoats x, int text, String bytes) {
        x.wipe(text);
        for (int i = 0; i < bytes.length(); i++) {
            due("type of byte " + i + " of " + bytes, x.type(text, bytes.charAt(i)), i + 1);
        }
    }

    private static TwoGoats with(String meadow, String day) {
        TwoGoats x = new TwoGoats();
        typeAll(x, 0, meadow);
        typeAll(x, 1, day);
        return x;
    }

    private static String repeated(String part, int n) {
        return part.repeat(n);
    }

    private static void newObject() {
        TwoGoats x = new TwoGoats();
        for (int what = 0; what <= 8; what++) {
            due("new: count " + what, x.count(what), 0);
        }
        due("new: fault", x.fault(), TwoGoats.NONE);
        due("new: heavy 0", x.set(0, 5), 5);
        due("new: heavy 1", x.set(1, 5), 5);
        due("new: reach", x.set(2, 9), 9);
        for (int day = 0; day < 2; day++) {
            due("new: start", x.start(day, 0), 0);
            due("new: judged", x.judged(day), TwoGoats.NONE);
        }
        for (int place = 0; place < 8; place++) {
            due("new: thistle", x.thistle(place, 0), 0);
        }
        for (int s = 0; s < 4; s++) {
            due("new: sheet is lost", x.lose(s), -11);
        }
    }

    private static void typeAndWipe() {
        TwoGoats x = new TwoGoats();
        for (int text = 0; text < 3; text++) {
            for (int n = 1; n <= 40; n++) {
                due("type", x.type(text, n % 2 == 0 ? 0 : 255), n);
            }
            due("type: full", x.type(text, 97), TwoGoats.FULL);
            due("type: bad byte ahead of full", x.type(text, 256), TwoGoats.BAD);
            due("type: bytes", x.count(1 + text), 40);
        }
        due("wipe", x.wipe(1), 40);
        due("wipe again", x.wipe(1), 0);
        due("wipe: others stay", x.count(1), 40);
        due("wipe: others stay", x.count(3), 40);
        due("type behind wipe", x.type(1, 0), 1);
        due("type: byte -1", x.type(1, -1), TwoGoats.BAD);
        due("type: text -1", x.type(-1, 0), TwoGoats.BAD);
        due("type: text 3", x.type(3, 0), TwoGoats.BAD);
        due("wipe: text -1", x.wipe(-1), TwoGoats.BAD);
        due("wipe: text 3", x.wipe(3), TwoGoats.BAD);
        due("type: bad changes nothing", x.count(2), 1);
        x = with("013", "a");
        due("wipe: the meadow is empty", x.wipe(0), 3);
        due("wipe: no path is left", x.count(0), 0);
        due("wipe: the day is judged anew", x.judged(0), 0);
    }

    private static void faultOf(String meadow, int want) {
        due("fault of " + meadow, with(meadow, "").fault(), want);
        int paths = want == TwoGoats.NONE ? (meadow.length() + 1) / 4 : 0;
        due("paths of " + meadow, with(meadow, "").count(0), paths);
    }

    private static void fault() {
        faultOf("", TwoGoats.NONE);
        faultOf("071", TwoGoats.NONE);
        faultOf("709;079", TwoGoats.NONE);
        faultOf("0", 1);
        faultOf("01", 2);
        faultOf("012;", 4);
        faultOf("012;0", 5);
        faultOf("8", 0);
        faultOf("/", 0);
        faultOf(";", 0);
        faultOf("08", 1);
        faultOf("001", 1);
        faultOf("010", 2);
        faultOf("01:", 2);
        faultOf("0111", 3);
        faultOf("011;;", 4);
        faultOf("011;221", 5);
        String eight = repeated("011;", 7) + "011";
        faultOf(eight, TwoGoats.NONE);
        faultOf(eight + "0", 31);
        faultOf(eight + ";", 32);
        faultOf(eight + ";x", 32);
        faultOf(eight + ";012", 32);
    }

    private static void path() {
        TwoGoats x = with("713;069", "");
        due("path 0, 0", x.path(0, 0), 7);
        due("path 0, 1", x.path(0, 1), 1);
        due("path 0, 2", x.path(0, 2), 3);
        due("path 1, 0", x.path(1, 0), 0);
        due("path 1, 1", x.path(1, 1), 6);
        due("path 1, 2", x.path(1, 2), 9);
        due("path 2", x.path(2, 0), TwoGoats.BAD);
        due("path -1", x.path(-1, 0), TwoGoats.BAD);
        due("path what 3", x.path(0, 3), TwoGoats.BAD);
        due("path what -1", x.path(0, -1), TwoGoats.BAD);
        x.type(0, 'x');
        due("path: a fault leaves none", x.path(0, 0), TwoGoats.BAD);
    }

    private static void startAndSet() {
        TwoGoats x = new TwoGoats();
        due("start", x.start(0, 7), 0);
        due("start again", x.start(0, 3), 7);
        due("start: the other day", x.start(1, 1), 0);
        due("start: both stand there", x.state(0, 0, 0) * 10 + x.state(0, 0, 1), 33);
        due("start: bad place", x.start(0, 8), TwoGoats.BAD);
        due("start: bad place", x.start(0, -1), TwoGoats.BAD);
        due("start: bad day", x.start(-1, 0), TwoGoats.BAD);
        due("start: bad day", x.start(2, 0), TwoGoats.BAD);
        due("start: bad changes nothing", x.start(0, 0), 3);
        due("set heavy", x.set(0, 0), 5);
        due("set heavy", x.set(0, 9), 0);
        due("set the other", x.set(1, 9), 5);
        due("set reach", x.set(2, 1), 9);
        due("set reach", x.set(2, 18), 1);
        due("set: heavy 10", x.set(0, 10), TwoGoats.BAD);
        due("set: heavy -1", x.set(1, -1), TwoGoats.BAD);
        due("set: reach 0", x.set(2, 0), TwoGoats.BAD);
        due("set: reach 19", x.set(2, 19), TwoGoats.BAD);
        due("set: what 3", x.set(3, 1), TwoGoats.BAD);
        due("set: what -1", x.set(-1, 1), TwoGoats.BAD);
        due("set: bad changes nothing", x.set(2, 5), 18);
    }

    private static void thistle() {
        TwoGoats x = new TwoGoats();
        due("thistle", x.thistle(7, 99), 0);
        due("thistle", x.thistle(7, 0), 99);
        due("thistle: above", x.thistle(0, 100), TwoGoats.BAD);
        due("thistle: below", x.thistle(0, -1), TwoGoats.BAD);
        due("thistle: place 8", x.thistle(8, 1), TwoGoats.BAD);
        due("thistle: place -1", x.thistle(-1, 1), TwoGoats.BAD);
        due("thistle: bad changes nothing", x.count(5), 0);
    }

    private static void read() {
        TwoGoats x = with("011;121", "hhh");
        due("read: lost", x.read(0, 0), -11);
        due("read: finding", x.count(8), 1);
        due("read: lost changes nothing", x.count(2), 3);
        due("read: bad day ahead of null", x.read(0, 2), TwoGoats.BAD);
        due("read: bad sheet", x.read(4, 0), TwoGoats.BAD);
        due("read: bad sheet", x.read(-1, 0), TwoGoats.BAD);
        x.sheet(0, 2, 4);
        x.lay(0, 2, 1, 8);
        x.lay(0, 2, 2, 15);
        x.lay(0, 2, 3, 7);
        due("read: all items", x.read(0, 0), 4);
        due("read: the steps are done until a path is not there", x.judged(0), 2);
        due("read: the rope is taken up", x.state(0, 2, 2), 0);
        due("read: the second goat went too", x.state(0, 2, 1), 1);
        x.lay(0, 2, 2, 16);
        due("read: up to 16", x.read(0, 1), 2);
        x.lay(0, 2, 0, -1);
        due("read: -1 is the first", x.read(0, 1), 0);
        due("read: the day is empty then", x.count(3), 0);
        x.lay(0, 2, 0, 1);
        x.lay(0, 2, 1, 8);
        x.lay(0, 2, 2, 9);
        typeAll(x, 0, "071;011;121");
        due("read: by 1, 8, 9, 7", x.read(0, 0), 4);
        due("read: the first by path 1", x.rope(0, 1, 0), 1);
        due("read: the second by path 0 to 7, where 1 is not", x.judged(0), 2);
        x.lay(0, 2, 1, 9);
        x.lay(0, 2, 2, 10);
        x.lay(0, 2, 3, 2);
        due("read: all by both", x.read(0, 0), 4);
        due("read: all done", x.judged(0), TwoGoats.NONE);
        due("read: both are there", x.state(0, 4, 0) * 10 + x.state(0, 4, 1), 22);
        x.sheet(1, 0, 60);
        due("read: 40 at most", x.read(1, 1), 40);
        due("read: 40 at most", x.count(3), 40);
        x.sheet(1, 1, 0);
        due("read: no items", x.read(1, 1), 0);
        due("read: no items", x.count(3), 0);
    }

    private static void undo() {
        TwoGoats x = with("011", "aA");
        due("undo", x.undo(0), 1);
        due("undo: the step is undone", x.state(0, 1, 0) * 10 + x.state(0, 1, 1), 10);
        due("undo: two are no more", x.state(0, 2, 0), TwoGoats.BAD);
        due("undo", x.undo(0), 0);
        due("undo: empty", x.undo(0), TwoGoats.NOT);
        due("undo: bad", x.undo(-1), TwoGoats.BAD);
        due("undo: bad", x.undo(2), TwoGoats.BAD);
    }

    private static void judged() {
        due("judged: all done", with(TRIANGLE, "acd").judged(0), TwoGoats.NONE);
        due("judged: no such path", with(TRIANGLE, "ae").judged(0), 1);
        due("judged: not at its place", with(TRIANGLE, "aA" + "b" + "D").judged(0), 3);
        due("judged: no letter", with(TRIANGLE, "a1a").judged(0), 1);
        due("judged: i is none", with(repeated("011;", 7) + "011", "hi").judged(0), 1);
        due("judged: @ is none", with(TRIANGLE, "@").judged(0), 0);
        due("judged: @ is none of eight", with(repeated("011;", 7) + "011", "@").judged(0), 0);
        due("judged: ` is none of eight", with(repeated("011;", 7) + "011", "`").judged(0), 0);
        due("judged: H is one", with(repeated("011;", 7) + "011", "HI").judged(0), 1);
        TwoGoats x = with("019", "a");
        due("judged: reach is enough", x.judged(0), TwoGoats.NONE);
        x.set(2, 8);
        due("judged: too long", x.judged(0), 0);
        x.set(1, 9);
        due("judged: too long for the lighter one", x.judged(0), 0);
        x.set(0, 9);
        due("judged: too long for a like one", x.judged(0), 0);
        x.set(1, 8);
        due("judged: the heavier one drags", x.judged(0), TwoGoats.NONE);
        typeAll(x, 1, "A");
        due("judged: nor does the lighter second one", x.judged(0), 0);
        x.set(1, 9);
        due("judged: nor a like second one", x.judged(0), 0);
        x.set(0, 8);
        due("judged: the heavier second one does", x.judged(0), TwoGoats.NONE);
        x.wipe(0);
        due("judged: no meadow", x.judged(0), 0);
        due("judged: the other day", x.judged(1), TwoGoats.NONE);
        due("judged: bad", x.judged(2), TwoGoats.BAD);
        due("judged: bad", x.judged(-1), TwoGoats.BAD);
    }

    private static void state() {
        TwoGoats x = with(TRIANGLE, "aBcA" + "C");
        int[][] want = {
            {0, 0, 0, 0}, {1, 0, 1, 2}, {1, 1, 2, 5}, {2, 1, 3, 7}, {2, 0, 4, 9},
        };
        for (int k = 0; k < want.length; k++) {
            for (int what = 0; what < 4; what++) {
                due("state " + k + ", " + what, x.state(0, k, what), want[k][what]);
            }
        }
        due("state: a step that is not done", x.state(0, 5, 0), TwoGoats.BAD);
        due("state: -1", x.state(0, -1, 0), TwoGoats.BAD);
        due("state: the greatest k", x.state(0, Integer.MAX_VALUE, 0), TwoGoats.BAD);
        due("state: what -1", x.state(0, 0, -1), TwoGoats.BAD);
        due("state: what 8", x.state(0, 0, 8), TwoGoats.BAD);
        due("state: day 2", x.state(2, 0, 0), TwoGoats.BAD);
        due("state: day -1", x.state(-1, 0, 0), TwoGoats.BAD);
        typeAll(x, 1, "aA");
        due("state: a rope followed is taken up", x.state(0, 2, 2) + x.state(0, 2, 3), 0);
        typeAll(x, 1, "aa");
        due("state: a rope walked back is taken up", x.state(0, 2, 2) + x.state(0, 2, 3), 0);
        typeAll(x, 1, "aB" + "b");
        due("state: another path back is laid", x.state(0, 3, 2), 3);
        due("state: another path back is laid", x.state(0, 3, 3), 8);
    }

    private static void dragging() {
        TwoGoats x = with("014;124;234", "abcC");
        due("drag: not without a heavier one", x.judged(0), 2);
        x.set(0, 6);
        due("drag: the step is done; then the dragged one has no such path", x.judged(0), 3);
        due("drag: the other one comes by one path", x.state(0, 3, 1), 1);
        due("drag: first goat's place", x.state(0, 3, 0), 3);
        due("drag: paths taken up by the second", x.state(0, 3, 7), 1);
        due("drag: the first is not", x.state(0, 3, 6), 0);
        due("drag: length", x.state(0, 3, 3), 8);
        x.set(2, 3);
        due("drag: at reach 3 every step drags", x.state(0, 3, 7), 3);
        due("drag: it may take up all", x.state(0, 3, 2), 0);
        due("drag: both stand there", x.state(0, 3, 0) * 10 + x.state(0, 3, 1), 33);
        typeAll(x, 1, "ABC");
        due("drag: the lighter one drags not", x.judged(0), 0);
        x.set(1, 7);
        due("drag: the second one drags", x.state(0, 3, 6), 3);
        x.set(2, 9);
        due("drag: one path, once", x.state(0, 3, 6), 1);
        due("drag: the first comes along", x.state(0, 3, 0), 1);
        due("drag: the rope of the rest", x.rope(0, 3, 0) * 10 + x.rope(0, 3, 1), 12);
        TwoGoats y = with("011;121;231;349", "abcd");
        y.set(0, 6);
        due("drag: more than one path at one step", y.state(0, 4, 7), 3);
        due("drag: just as far as reach", y.state(0, 4, 3), 9);
    }

    private static void thistlesEaten() {
        TwoGoats x = with("011;121", "aA" + "baa");
        x.thistle(0, 50);
        x.thistle(1, 7);
        x.thistle(2, 9);
        due("eaten: not at start", x.state(0, 0, 4), 0);
        due("eaten: by the one who comes", x.state(0, 1, 4), 7);
        due("eaten: none left for the second", x.state(0, 2, 5), 0);
        due("eaten: one more place", x.state(0, 3, 4), 16);
        due("eaten: the day ends where a is not", x.judged(0), 3);
        typeAll(x, 1, "aa" + "Aa" + "a");
        due("eaten: start, once come back to it", x.state(0, 2, 4), 57);
        due("eaten: once a day", x.state(0, 5, 4), 57);
        due("eaten: all are gone", x.state(0, 5, 5), 0);
        typeAll(x, 1, "ab");
        x.set(0, 9);
        x.set(2, 1);
        due("eaten: not by one who is dragged", x.state(0, 2, 5), 0);
        due("eaten: by the one who drags", x.state(0, 2, 4), 16);
        due("eaten: the second was dragged", x.state(0, 2, 7), 1);
        typeAll(x, 2, "a");
        due("eaten: the other day has its own", x.state(1, 1, 4), 7);
    }

    private static void rope() {
        TwoGoats x = with(TRIANGLE, "aBcA");
        int[] want = {2, 0, 1, 0};
        for (int i = 0; i < want.length; i++) {
            due("rope " + i, x.rope(0, 4, i), want[i]);
        }
        due("rope: beyond", x.rope(0, 4, 4), TwoGoats.NONE);
        due("rope: far beyond", x.rope(0, 4, Integer.MAX_VALUE), TwoGoats.NONE);
        due("rope: at start", x.rope(0, 0, 0), TwoGoats.NONE);
        due("rope: i -1", x.rope(0, 4, -1), TwoGoats.BAD);
        due("rope: k -1", x.rope(0, -1, 0), TwoGoats.BAD);
        due("rope: k 5", x.rope(0, 5, 0), TwoGoats.BAD);
        due("rope: day 2", x.rope(2, 0, 0), TwoGoats.BAD);
    }

    private static void needs() {
        TwoGoats x = with(TRIANGLE, "aBcA" + "C");
        due("needs: the longest, up to a step that cannot be", x.needs(0), 9);
        x.set(2, 1);
        due("needs: whatever reach is", x.needs(0), 9);
        x.set(0, 9);
        due("needs: whoever is heavier", x.needs(0), 9);
        due("needs: no steps", x.needs(1), 0);
        typeAll(x, 1, "xa");
        due("needs: behind no step", x.needs(0), 0);
        typeAll(x, 1, "aA");
        due("needs: in between", x.needs(0), 2);
        due("needs: bad", x.needs(2), TwoGoats.BAD);
        due("needs: bad", x.needs(-1), TwoGoats.BAD);
        x = with("019;109", repeated("ab", 20));
        due("needs: forty windings", x.needs(0), 360);
        x = with("019;109", repeated("aB", 20));
        due("needs: the one takes up what the other lays", x.needs(0), 18);
        x = with("019;109", repeated("aA", 5) + repeated("BaAb", 5));
        due("needs: wound by both", x.needs(0), 180);
        x = with("019;109", repeated("ab", 10) + repeated("AB", 10));
        due("needs: followed by the second", x.needs(0), 180);
    }

    private static void soon() {
        TwoGoats x = with("011;121;231;301", "");
        x.set(2, 18);
        due("soon: there already", x.soon(0, 0, 0), 0);
        due("soon: one step", x.soon(0, 0, 3), 1);
        due("soon: both", x.soon(0, 1, 3), 2);
        due("soon: the same place", x.soon(0, 2, 2), 4);
        due("soon: no such place in the meadow", x.soon(0, 0, 5), TwoGoats.NONE);
        x.set(2, 1);
        due("soon: one has to wait for the other", x.soon(0, 2, 2), 4);
        due("soon: too short", x.soon(0, 0, 2), TwoGoats.NONE);
        x.set(0, 9);
        due("soon: nobody is dragged", x.soon(0, 0, 2), TwoGoats.NONE);
        typeAll(x, 1, "ab");
        due("soon: from where the day ends", x.soon(0, 2, 2), 1);
        due("soon: first 8", x.soon(0, 8, 0), TwoGoats.BAD);
        due("soon: first -1", x.soon(0, -1, 0), TwoGoats.BAD);
        due("soon: second 8", x.soon(0, 0, 8), TwoGoats.BAD);
        due("soon: second -1", x.soon(0, 0, -1), TwoGoats.BAD);
        due("soon: day 2", x.soon(2, 0, 0), TwoGoats.BAD);
    }

    // Round 8 paths of a yard, a rope of n paths lies in 8 * 7^(n - 1) ways, each at two places to begin.
    private static void soonFull() {
        TwoGoats x = with(repeated("011;", 7) + "011", "");
        x.set(2, 18);
        due("soon: 8 paths: one step", x.soon(0, 1, 0), 1);
        due("soon: 8 paths, none there", x.soon(0, 5, 5), TwoGoats.FULL);
        x.set(2, 1);
        due("soon: 2 + 16 ways, none there", x.soon(0, 5, 5), TwoGoats.NONE);
        x.set(2, 3);
        due("soon: 2 + 16 + 112 + 784 ways are not too many", x.soon(0, 5, 5), TwoGoats.NONE);
        x.set(2, 4);
        due("soon: 5488 more are too many", x.soon(0, 5, 5), TwoGoats.FULL);
        x = with("011;012;012;013", "");
        x.set(2, 10);
        due("soon: 1000 ways are not too many", x.soon(0, 7, 7), TwoGoats.NONE);
        x = with("013;013;014;102;211", "");
        x.set(2, 14);
        due("soon: 1001 ways are too many", x.soon(0, 7, 7), TwoGoats.FULL);
        TwoGoats y = with(repeated("011;", 6) + "121;231", "");
        y.set(2, 18);
        due("soon: in the step by which there are too many", y.soon(0, 3, 1), 4);
    }

    private static void loose() {
        TwoGoats x = with(TRIANGLE, "aBcA");
        due("loose", x.loose(0), 4);
        x.type(1, 'A');
        due("loose: unwound by one", x.loose(0), 3);
        due("loose: at start", x.loose(1), 0);
        due("loose: bad", x.loose(2), TwoGoats.BAD);
        due("loose: bad", x.loose(-1), TwoGoats.BAD);
    }

    private static void pulled() {
        TwoGoats x = with("013;102;122;122;029", "aB");
        due("pulled: one winding is none", x.pulled(0, 0, 1, 0), 0);
        due("pulled: no length", x.pulled(0, 1, 0, 1), 0);
        due("pulled: another stake", x.pulled(0, 2, 3, 0), 2);
        due("pulled: another stake: length", x.pulled(0, 2, 3, 1), 5);
        due("pulled: not the same ends", x.pulled(0, 0, 2, 0), TwoGoats.NOT);
        due("pulled: one with itself", x.pulled(0, 0, 0, 0), TwoGoats.BAD);
        due("pulled: no such path", x.pulled(0, 0, 5, 0), TwoGoats.BAD);
        due("pulled: no such path", x.pulled(0, -1, 0, 0), TwoGoats.BAD);
        due("pulled: no such what, ahead of not", x.pulled(0, 0, 2, 2), TwoGoats.BAD);
        due("pulled: no such what", x.pulled(0, 0, 1, -1), TwoGoats.BAD);
        due("pulled: no such day", x.pulled(2, 0, 1, 0), TwoGoats.BAD);
        typeAll(x, 1, "a");
        due("pulled: the one with the fewer yards", x.pulled(0, 0, 1, 1), 2);
        x.wipe(0);
        typeAll(x, 0, "012;103;122;122;029");
        typeAll(x, 1, "b");
        due("pulled: perhaps it is the lesser number", x.pulled(0, 0, 1, 1), 2);
        typeAll(x, 0, "013;102;122;122;029");
        typeAll(x, 1, "ac" + "da");
        x.set(2, 18);
        due("pulled: what stands around goes too", x.pulled(0, 2, 3, 0), 0);
        typeAll(x, 1, "ac" + "db");
        due("pulled: what is unlike around stays", x.pulled(0, 2, 3, 0), 2);
        due("pulled: what is unlike around stays", x.pulled(0, 2, 3, 1), 5);
    }

    private static void began() {
        TwoGoats x = with("011;121;231;451", "");
        due("began: where they stand", x.began(0, 0), 0);
        due("began: two steps off, both", x.began(0, 2), 4);
        due("began: no way", x.began(0, 4), TwoGoats.NONE);
        due("began: not in the meadow", x.began(0, 7), TwoGoats.NONE);
        typeAll(x, 1, "ab");
        due("began: one end", x.began(0, 0), 2);
        due("began: along the rope", x.began(0, 1), 2);
        due("began: the other end", x.began(0, 2), 2);
        due("began: off the rope", x.began(0, 3), 4);
        x.set(2, 2);
        due("began: whatever reach is", x.began(0, 3), 4);
        due("began: place 8", x.began(0, 8), TwoGoats.BAD);
        due("began: place -1", x.began(0, -1), TwoGoats.BAD);
        due("began: day 2", x.began(2, 0), TwoGoats.BAD);
    }

    private static void game() {
        TwoGoats x = with("011;121;021;231", "");
        x.thistle(1, 5);
        x.thistle(2, 5);
        x.thistle(3, 9);
        due("game: the least of like ones", x.game(0, 1, 1), 0);
        due("game: one step", x.game(0, 1, 0), 5);
        due("game: each takes one", x.game(0, 2, 0), 0);
        due("game: two and the nine, or one and one", x.game(0, 3, 0), 9);
        due("game: by c to the nine", x.game(0, 3, 1), 2);
        due("game: rather stay where all is like", x.game(1, 1, 0), 5);
        typeAll(x, 1, "a");
        due("game: thistles as they are left", x.game(0, 1, 0), 5);
        due("game: by b or d, from 1", x.game(0, 1, 1), 1);
        typeAll(x, 1, "ab" + "d");
        due("game: nothing is left", x.game(0, 5, 0), 0);
        due("game: to stay then", x.game(0, 5, 1), TwoGoats.NONE);
        x = with("013;022", "");
        x.thistle(1, 3);
        x.thistle(2, 9);
        x.set(2, 2);
        due("game: only by what is borne", x.game(0, 1, 1), 1);
        x.set(2, 1);
        x.set(0, 9);
        due("game: nobody is dragged", x.game(0, 5, 0), 0);
        due("game: nobody is dragged", x.game(0, 5, 1), TwoGoats.NONE);
        x = with("011;121", "a");
        x.thistle(0, 8);
        x.set(2, 1);
        due("game: back to the start", x.game(0, 1, 0), 8);
        typeAll(x, 1, "A");
        due("game: the second would lose it", x.game(0, 1, 0), 0);
        due("game: the second has it", x.game(0, 2, 0), -8);
        for (int n = 1; n <= 5; n++) {
            due("game: away and back to the start, from 3 on", x.game(1, n, 0), n < 3 ? 0 : 8);
        }
        due("game: n 0", x.game(0, 0, 0), -10002);
        due("game: n 6", x.game(0, 6, 0), -10002);
        due("game: what 2", x.game(0, 1, 2), -10002);
        due("game: what -1", x.game(0, 1, -1), -10002);
        due("game: day 2", x.game(2, 1, 0), -10002);
        due("game: day -1", x.game(-1, 1, 1), -10002);
    }

    private static void alike() {
        TwoGoats x = with("011;011;011", "");
        due("alike: both at start", x.alike(), 1);
        typeAll(x, 1, "ab");
        due("alike: the same places alone", x.alike(), 2);
        typeAll(x, 2, "ab");
        due("alike: the same rope", x.alike(), 1);
        typeAll(x, 2, "ba");
        due("alike: the rope the other way", x.alike(), 2);
        typeAll(x, 1, "a");
        typeAll(x, 2, "b");
        due("alike: another path", x.alike(), 2);
        typeAll(x, 1, "ab");
        typeAll(x, 2, "ab");
        x.type(2, 'c');
        x.type(1, 'c');
        due("alike: three paths", x.alike(), 1);
        x.undo(0);
        typeAll(x, 2, "abcc");
        due("alike: unlike days, like ends", x.alike(), 1);
        x.undo(0);
        due("alike: a step undone, another end", x.alike(), 0);
        typeAll(x, 2, "a");
        typeAll(x, 1, "ab");
        due("alike: unlike places", x.alike(), 0);
        typeAll(x, 1, "A");
        due("alike: the places change hands", x.alike(), 0);
    }

    private static void sheetAndLose() {
        TwoGoats x = new TwoGoats();
        for (int form = 0; form < 3; form++) {
            due("sheet", x.sheet(3, form, 60), 60);
        }
        due("sheet: items are 0", x.get(3, 2, 59), 0);
        x.lay(3, 2, 0, 7);
        due("sheet: a new row", x.sheet(3, 2, 1), 1);
        due("sheet: a new row holds 0", x.get(3, 2, 0), 0);
        due("sheet: 61", x.sheet(3, 0, 61), TwoGoats.BAD);
        due("sheet: form 3", x.sheet(3, 3, 1), TwoGoats.BAD);
        due("sheet: form -1", x.sheet(3, -1, 1), TwoGoats.BAD);
        due("sheet: sheet 4", x.sheet(4, 0, 1), TwoGoats.BAD);
        due("sheet: sheet -1", x.sheet(-1, 0, 1), TwoGoats.BAD);
        due("sheet: bad ahead of size", x.sheet(4, 0, -1), TwoGoats.BAD);
        due("sheet: bad is no finding", x.count(8), 0);
        due("sheet: size", x.sheet(3, 0, -1), -15);
        due("sheet: size is a finding", x.count(8), 5);
        due("sheet: size changes nothing", x.get(3, 2, 0), 0);
        due("lose", x.lose(3), 1);
        due("lose: null", x.lose(3), -11);
        due("lose: finding", x.count(8), 1);
        due("lose: bad", x.lose(4), TwoGoats.BAD);
        due("lose: bad", x.lose(-1), TwoGoats.BAD);
        due("sheet: 0 items", x.sheet(0, 0, 0), 0);
        due("lose: had 0", x.lose(0), 0);
    }

    private static void layAndGet() {
        TwoGoats x = new TwoGoats();
        for (int form = 0; form < 3; form++) {
            x.sheet(form, form, 2);
            due("lay", x.lay(form, form, 1, 0x12348081), 1);
            due("lay: the other item stays", x.get(form, form, 0), 0);
        }
        due("get: a byte with its sign", x.get(0, 0, 1), -127);
        due("get: a short with its sign", x.get(1, 1, 1), -32639);
        due("get: an int", x.get(2, 2, 1), 0x12348081);
        due("lay: null", x.lay(3, 0, 0, 1), -11);
        due("lay: index", x.lay(0, 0, 2, 1), -12);
        due("lay: index", x.lay(0, 0, -1, 1), -12);
        due("lay: cast ahead of index", x.lay(0, 1, 2, 1), -13);
        due("lay: finding", x.count(8), 3);
        due("lay: bad form", x.lay(0, 3, 0, 1), TwoGoats.BAD);
        due("lay: bad form ahead of null", x.lay(3, -1, 0, 1), TwoGoats.BAD);
        due("lay: bad sheet", x.lay(4, 0, 0, 1), TwoGoats.BAD);
        due("lay: bad is no finding", x.count(8), 3);
        due("get: null", x.get(3, 0, 0), LEAST_INT);
        due("get: null is a finding", x.count(8), 1);
        due("get: cast", x.get(0, 2, 0), LEAST_INT);
        due("get: cast is a finding", x.count(8), 3);
        due("get: index", x.get(0, 0, 2), LEAST_INT);
        due("get: index is a finding", x.count(8), 2);
        due("get: bad", x.get(-1, 0, 0), LEAST_INT);
        due("get: bad", x.get(0, 3, 0), LEAST_INT);
        due("get: bad is no finding", x.count(8), 2);
    }

    private static void copy() {
        TwoGoats x = new TwoGoats();
        x.sheet(0, 0, 5);
        x.sheet(1, 0, 3);
        x.sheet(2, 1, 5);
        for (int i = 0; i < 5; i++) {
            x.lay(0, 0, i, i + 1);
        }
        due("copy", x.copy(0, 3, 1, 1, 2), 1);
        due("copy: from 3", x.get(1, 0, 1) * 10 + x.get(1, 0, 2), 45);
        due("copy: the rest stays", x.get(1, 0, 0), 0);
        due("copy: onto itself, as they were", x.copy(0, 0, 0, 1, 4), 1);
        int told = 0;
        for (int i = 0; i < 5; i++) {
            told = 10 * told + x.get(0, 0, i);
        }
        due("copy: onto itself, as they were", told, 11234);
        due("copy: none, at the end", x.copy(0, 5, 1, 3, 0), 1);
        due("copy: none, behind the end", x.copy(0, 6, 1, 0, 0), -12);
        due("copy: none, behind the other end", x.copy(0, 0, 1, 4, 0), -12);
        due("copy: one too many", x.copy(0, 4, 1, 0, 2), -12);
        due("copy: one too many there", x.copy(0, 0, 1, 2, 2), -12);
        due("copy: below 0", x.copy(0, -1, 1, 0, 1), -12);
        due("copy: below 0", x.copy(0, 0, 1, -1, 1), -12);
        due("copy: below 0", x.copy(0, 0, 1, 0, -1), -12);
        due("copy: far too many", x.copy(0, 1, 1, 1, Integer.MAX_VALUE), -12);
        due("copy: far behind", x.copy(0, Integer.MAX_VALUE, 1, 1, 1), -12);
        due("copy: finding", x.count(8), 2);
        due("copy: store ahead of index", x.copy(0, -1, 2, 0, 1), -14);
        due("copy: finding", x.count(8), 4);
        due("copy: null ahead of store", x.copy(0, -1, 3, 0, 1), -11);
        due("copy: null", x.copy(3, 0, 0, 0, 1), -11);
        due("copy: bad ahead of null", x.copy(3, 0, 4, 0, 1), TwoGoats.BAD);
        due("copy: bad", x.copy(-1, 0, 0, 0, 1), TwoGoats.BAD);
    }

    private static void write() {
        TwoGoats x = with(TRIANGLE, "aBcA");
        due("write: null", x.write(0, 0), -11);
        due("write: finding", x.count(8), 1);
        for (int form = 0; form < 3; form++) {
            x.sheet(form, form, 6);
            x.lay(form, form, 4, 77);
            due("write", x.write(0, form), 4);
            int told = 0;
            for (int i = 0; i < 4; i++) {
                told = 10 * told + x.get(form, form, i);
            }
            due("write: the rope", told, 2010);
            due("write: the rest stays", x.get(form, form, 4), 77);
        }
        x.sheet(3, 0, 2);
        due("write: as many as there are items", x.write(0, 3), 2);
        due("write: as many as there are paths", x.write(1, 3), 0);
        due("write: it stays then", x.get(3, 0, 0), 2);
        due("write: bad", x.write(2, 3), TwoGoats.BAD);
        due("write: bad", x.write(-1, 3), TwoGoats.BAD);
        due("write: bad", x.write(0, 4), TwoGoats.BAD);
        due("write: bad", x.write(0, -1), TwoGoats.BAD);
    }

    private static void count() {
        TwoGoats x = with(TRIANGLE, "aBcAC");
        typeAll(x, 2, "aa");
        x.thistle(0, 99);
        x.thistle(7, 98);
        int[] want = {4, 15, 5, 2, 10, 197, 4, 2, 0};
        for (int what = 0; what < want.length; what++) {
            due("count " + what, x.count(what), want[what]);
        }
        due("count: -1", x.count(-1), TwoGoats.BAD);
        due("count: 9", x.count(9), TwoGoats.BAD);
    }

    private static void digest() {
        TwoGoats x = with("012;102;211", "aBc");
        x.thistle(0, 9);
        due("digest", x.digest(), digestByCalls(x));
        x.set(2, 5);
        due("digest: changed", x.digest(), digestByCalls(x));
        x.type(0, 'x');
        due("digest: no meadow", x.digest(), digestByCalls(x));
        due("digest: again", x.digest(), digestByCalls(x));
        due("digest: is no finding", x.count(8), 0);
    }

    private static long digestByCalls(TwoGoats x) {
        StringBuilder told = new StringBuilder();
        for (int what = 0; what < 8; what++) {
            told.append(x.count(what)).append(' ');
        }
        told.append(x.fault()).append(' ');
        for (int p = 0; p < x.count(0); p++) {
            told.append(x.path(p, 0)).append(' ').append(x.path(p, 1)).append(' ').append(x.path(p, 2)).append(' ');
        }
        for (int day = 0; day < 2; day++) {
            int done = x.count(6 + day);
            told.append(x.judged(day)).append(' ');
            for (int what = 0; what < 8; what++) {
                told.append(x.state(day, done, what)).append(' ');
            }
            told.append(x.rope(day, done, 0)).append(' ').append(x.needs(day)).append(' ');
            told.append(x.soon(day, 0, 1)).append(' ').append(x.soon(day, 2, 2)).append(' ');
            told.append(x.loose(day)).append(' ').append(x.began(day, 0)).append(' ').append(x.began(day, 1));
            told.append(' ').append(x.game(day, 3, 0)).append(' ').append(x.game(day, 3, 1)).append(' ');
        }
        told.append(x.pulled(0, 0, 1, 0)).append(' ').append(x.pulled(0, 0, 1, 1)).append(' ').append(x.alike());
        long h = 17;
        for (String one : told.toString().split(" ")) {
            h = 31 * h + Long.parseLong(one);
        }
        return h;
    }
}
