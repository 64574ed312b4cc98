import java.util.function.ToIntFunction;

/** All refusals of promises 2 to 27: what they answer, which one is the first, and that they change nothing. */
public final class RefusalsBoundsTest {
    private static final int BAD = Held.BAD, NOT = Held.NOT, FULL = Held.FULL, LEAST = Held.LEAST;
    private static final int NULL = Held.NULL, INDEX = Held.INDEX, CAST = Held.CAST, STORE = Held.STORE;
    private static final int SIZE = Held.SIZE, GREATEST = Held.GREATEST;
    private static final int[] BELOW_0 = {LEAST, -1};

    public static void main(String[] args) {
        texts();
        whatIsSet();
        daysAreReadAndUndone();
        whatIsAsked();
        fromTheEnd();
        anyNumber();
        sheets();
        laidAndGot();
        copied();
        theFirstThatFits();
        Held.end(2, 27);
    }

    /** An object in which everything is set; nothing of it is as it is at first. */
    private static TwoGoats usual() {
        TwoGoats x = Held.with("012;123;203;102", "aC");
        Held.typeAll(x, 2, "Cax");
        x.start(0, 0);
        x.start(1, 2);
        x.set(0, 6);
        x.set(1, 4);
        x.set(2, 11);
        for (int place = 0; place < 8; place++) {
            x.thistle(place, 10 + place);
        }
        Held.layAll(x, 0, 0, 1, 2, 3);
        Held.layAll(x, 1, 1, 4, 5);
        Held.layAll(x, 2, 2, 6, 7, 8, 9);
        return x;
    }

    /** One whose texts are full, and which is as at first else. */
    private static TwoGoats full() {
        TwoGoats x = new TwoGoats();
        for (int text = 0; text < 3; text++) {
            Held.typeAll(x, text, "0".repeat(40));
        }
        return x;
    }

    /** All that can be told of an object but the latest finding; it is left as it is. */
    private static String told(TwoGoats x) {
        StringBuilder told = new StringBuilder();
        told.append(x.digest());
        for (int what = 0; what < 8; what++) {
            told.append(' ').append(x.count(what));
        }
        for (int day = 0; day < 2; day++) {
            int was = x.start(day, 0);
            x.start(day, was);
            told.append(" start ").append(was).append(Held.ropeBehind(x, day, x.count(6 + day)));
        }
        for (int what = 0; what < 3; what++) {
            int was = x.set(what, 1);
            x.set(what, was);
            told.append(" set ").append(was);
        }
        for (int place = 0; place < 8; place++) {
            int was = x.thistle(place, 0);
            x.thistle(place, was);
            told.append(" thistle ").append(was);
        }
        for (int s = 0; s < 3; s++) {
            for (int i = 0; i < 5; i++) {
                told.append(" item ").append(x.get(s, s, i));
            }
        }
        return told.append(x.lose(3)).toString();
    }

    /** The call is refused so; nothing is changed by it, but count() 8 where it is a finding. */
    private static void refused(TwoGoats x, String call, ToIntFunction<TwoGoats> asked, int want, int finding) {
        String before = told(x);
        int marked = finding == 5 ? x.lose(3) : x.sheet(0, 0, -1);
        Held.due("a finding ahead of it", marked, finding == 5 ? NULL : SIZE);
        Held.due(call, asked.applyAsInt(x), want);
        Held.due("the finding behind " + call, x.count(8), finding == 0 ? 5 : finding);
        Held.due("what is as it was behind " + call, told(x).equals(before) ? 1 : 0, 1);
    }

    private static void refused(String call, ToIntFunction<TwoGoats> asked, int want) {
        refused(usual(), call, asked, want, want <= NULL && want >= SIZE ? -10 - want : 0);
    }

    /** A number of a call is told from the first to the last; on both sides of these it is bad. */
    private static void bounded(String call, int first, int last, NumberAsked asked) {
        for (int wrong : new int[] {LEAST, first - 1, last + 1, GREATEST}) {
            refused(call + " at " + wrong, x -> asked.of(x, wrong), BAD);
        }
        for (int right : new int[] {first, last}) {
            Held.due(call + " at " + right + " is not bad", asked.of(usual(), right) == BAD ? 1 : 0, 0);
        }
    }

    /** A call with one of its numbers left open. */
    private interface NumberAsked {
        int of(TwoGoats x, int number);
    }

    private static void texts() {
        Held.holds(2, "A byte (0 to 255) comes behind a text (0 to 2): how many. BAD; FULL.");
        bounded("type(.., 97)", 0, 2, (x, text) -> x.type(text, 97));
        bounded("type(0, ..)", 0, 255, (x, b) -> x.type(0, b));
        for (int text = 0; text < 3; text++) {
            int typed = text;
            refused(full(), "type(" + text + ", 97) behind 40 bytes", x -> x.type(typed, 97), FULL, 0);
        }

        Held.holds(3, "BAD.");
        bounded("wipe", 0, 2, (x, text) -> x.wipe(text));

        Held.holds(5, "YARDS (2). BAD.");
        bounded("path(.., 0)", 0, 3, (x, path) -> x.path(path, 0));
        bounded("path(0, ..)", 0, 2, (x, what) -> x.path(0, what));

        Held.holds(4, "The FAULT of THE MEADOW; NONE.");
        Held.due("fault is never refused: without one", usual().fault(), Held.NONE);
        Held.due("fault is never refused: with one", full().fault(), 1);
    }

    private static void whatIsSet() {
        Held.holds(6, "START of a DAY: what it was. BAD.");
        bounded("start(.., 3)", 0, 1, (x, day) -> x.start(day, 3));
        bounded("start(1, ..)", 0, 7, (x, place) -> x.start(1, place));
        Held.holds(7, "REACH (2): what it was. BAD.");
        bounded("set(.., 3)", 0, 2, (x, what) -> x.set(what, 3));
        bounded("set(0, ..)", 0, 9, (x, v) -> x.set(0, v));
        bounded("set(1, ..)", 0, 9, (x, v) -> x.set(1, v));
        bounded("set(2, ..)", 1, 18, (x, v) -> x.set(2, v));
        Held.holds(8, "WORTH of THISTLES of a PLACE: what it was. BAD.");
        bounded("thistle(.., 3)", 0, 7, (x, place) -> x.thistle(place, 3));
        bounded("thistle(7, ..)", 0, 99, (x, v) -> x.thistle(7, v));
    }

    private static void daysAreReadAndUndone() {
        Held.holds(9, "40 at most: how many. BAD; NULL.");
        bounded("read(.., 0)", 0, 3, (x, s) -> x.read(s, 0));
        bounded("read(0, ..)", 0, 1, (x, day) -> x.read(0, day));
        refused("read(3, 1)", x -> x.read(3, 1), NULL);
        Held.holds(10, "BAD; NOT: it is empty.");
        bounded("undo", 0, 1, (x, day) -> x.undo(day));
        refused(new TwoGoats(), "undo(0) of none", x -> x.undo(0), NOT, 0);
        refused(new TwoGoats(), "undo(1) of none", x -> x.undo(1), NOT, 0);
    }

    private static void whatIsAsked() {
        Held.holds(11, "JUDGED; NONE. BAD.");
        bounded("judged", 0, 1, (x, day) -> x.judged(day));
        Held.holds(12, "the second (7). BAD.");
        bounded("state(.., 0, 0)", 0, 1, (x, day) -> x.state(day, 0, 0));
        bounded("state(0, .., 0)", 0, 2, (x, k) -> x.state(0, k, 0));
        bounded("state(0, 2, ..)", 0, 7, (x, what) -> x.state(0, 2, what));
        Held.holds(13, "BAD (i from 0 on).");
        bounded("rope(.., 0, 0)", 0, 1, (x, day) -> x.rope(day, 0, 0));
        bounded("rope(0, .., 0)", 0, 2, (x, k) -> x.rope(0, k, 0));
        for (int wrong : BELOW_0) {
            refused("rope(0, 2, " + wrong + ")", x -> x.rope(0, 2, wrong), BAD);
        }
        Held.due("rope(0, 2, 0)", usual().rope(0, 2, 0), 0);
        Held.holds(14, "NEEDS. BAD.");
        bounded("needs", 0, 1, (x, day) -> x.needs(day));
        Held.holds(27, "(0 before any). BAD.");
        bounded("count", 0, 8, (x, what) -> x.count(what));
    }

    private static void fromTheEnd() {
        Held.holds(15, "SOON; NONE. BAD; FULL.");
        bounded("soon(.., 0, 0)", 0, 1, (x, day) -> x.soon(day, 0, 0));
        bounded("soon(0, .., 0)", 0, 7, (x, first) -> x.soon(0, first, 0));
        bounded("soon(0, 0, ..)", 0, 7, (x, second) -> x.soon(0, 0, second));
        TwoGoats many = usual();
        Held.retype(many, 0, Held.EIGHT);
        refused(many, "soon(0, 7, 7)", x -> x.soon(0, 7, 7), FULL, 0);
        Held.holds(16, "LOOSE. BAD.");
        bounded("loose", 0, 1, (x, day) -> x.loose(day));
        Held.holds(17, "BAD: also one with itself; NOT.");
        bounded("pulled(.., 0, 3, 0)", 0, 1, (x, day) -> x.pulled(day, 0, 3, 0));
        bounded("pulled(0, .., 1, 0)", 0, 3, (x, a) -> x.pulled(0, a, 1, 0));
        bounded("pulled(0, 1, .., 0)", 0, 3, (x, b) -> x.pulled(0, 1, b, 0));
        bounded("pulled(0, 0, 3, ..)", 0, 1, (x, what) -> x.pulled(0, 0, 3, what));
        refused("pulled(0, 1, 1, 0)", x -> x.pulled(0, 1, 1, 0), BAD);
        refused("pulled(0, 0, 1, 0)", x -> x.pulled(0, 0, 1, 0), NOT);
        refused("pulled(0, 0, 1, 1)", x -> x.pulled(0, 0, 1, 1), NOT);
        Held.holds(18, "BEGAN; NONE. BAD.");
        bounded("began(.., 0)", 0, 1, (x, day) -> x.began(day, 0));
        bounded("began(0, ..)", 0, 7, (x, place) -> x.began(0, place));
        Held.holds(20, "ALIKE of both DAYS.");
        Held.due("alike is never refused", usual().alike(), 0);
    }

    private static void anyNumber() {
        Held.holds(19, "Where any number is told, a refusal -x is -10000 less x.");
        int bad = -10000 + BAD;
        for (int what = 0; what < 2; what++) {
            int asked = what;
            for (int wrong : new int[] {LEAST, -1, 2, GREATEST}) {
                refused("game(" + wrong + ", 1, " + what + ")", x -> x.game(wrong, 1, asked), bad);
            }
            for (int wrong : new int[] {LEAST, -1, 0, 6, GREATEST}) {
                refused("game(0, " + wrong + ", " + what + ")", x -> x.game(0, wrong, asked), bad);
            }
        }
        for (int wrong : new int[] {LEAST, -1, 2, GREATEST}) {
            refused("game(0, 1, " + wrong + ")", x -> x.game(0, 1, wrong), bad);
        }
        TwoGoats x = Held.with("011", "A");
        x.thistle(0, 2);
        Held.due("what is BAD as a number is not refused", x.game(0, 2, 0), BAD);
    }

    private static void sheets() {
        Held.holds(21, "BAD: SHEET, FORM, above 60; SIZE.");
        bounded("sheet(.., 0, 2)", 0, 3, (x, s) -> x.sheet(s, 0, 2));
        bounded("sheet(0, .., 2)", 0, 2, (x, form) -> x.sheet(0, form, 2));
        refused("sheet(0, 1, 61)", x -> x.sheet(0, 1, 61), BAD);
        refused("sheet(0, 1, the greatest)", x -> x.sheet(0, 1, GREATEST), BAD);
        refused("sheet(0, 1, -1)", x -> x.sheet(0, 1, -1), SIZE);
        refused("sheet(3, 1, the least)", x -> x.sheet(3, 1, LEAST), SIZE);
        Held.holds(22, "how many items it had. BAD; NULL.");
        bounded("lose", 0, 3, (x, s) -> x.lose(s));
        refused("lose(3)", x -> x.lose(3), NULL);
        Held.holds(26, "how many. BAD; NULL.");
        bounded("write(.., 0)", 0, 1, (x, day) -> x.write(day, 0));
        bounded("write(0, ..)", 0, 3, (x, s) -> x.write(0, s));
        refused("write(0, 3)", x -> x.write(0, 3), NULL);
        refused("write(1, 3)", x -> x.write(1, 3), NULL);
    }

    private static void laidAndGot() {
        Held.holds(23, "1. BAD; NULL; CAST; INDEX.");
        bounded("lay(.., 0, 0, 9)", 0, 3, (x, s) -> x.lay(s, 0, 0, 9));
        bounded("lay(0, .., 0, 9)", 0, 2, (x, form) -> x.lay(0, form, 0, 9));
        refused("lay(3, 0, 0, 9)", x -> x.lay(3, 0, 0, 9), NULL);
        refused("lay(1, 2, 0, 9)", x -> x.lay(1, 2, 0, 9), CAST);
        refused("lay(1, 0, 0, 9)", x -> x.lay(1, 0, 0, 9), CAST);
        for (int wrong : new int[] {LEAST, -1, 2, 60, GREATEST}) {
            refused("lay(1, 1, " + wrong + ", 9)", x -> x.lay(1, 1, wrong, 9), INDEX);
        }

        Held.holds(24, "BAD: the least int; so are NULL, CAST, INDEX (count() 8 tells).");
        for (int wrong : new int[] {LEAST, -1, 4, GREATEST}) {
            refused("get(" + wrong + ", 0, 0)", x -> x.get(wrong, 0, 0), LEAST);
        }
        for (int wrong : new int[] {LEAST, -1, 3, GREATEST}) {
            refused("get(0, " + wrong + ", 0)", x -> x.get(0, wrong, 0), LEAST);
        }
        refused(usual(), "get(3, 0, 0)", x -> x.get(3, 0, 0), LEAST, 1);
        refused(usual(), "get(1, 2, 0)", x -> x.get(1, 2, 0), LEAST, 3);
        for (int wrong : new int[] {LEAST, -1, 2, 60, GREATEST}) {
            refused(usual(), "get(1, 1, " + wrong + ")", x -> x.get(1, 1, wrong), LEAST, 2);
        }
    }

    private static void copied() {
        Held.holds(25, "BAD: the SHEETS; NULL: s, t; STORE; INDEX: below 0, not so many");
        bounded("copy(.., 0, 0, 0, 1)", 0, 3, (x, s) -> x.copy(s, 0, 0, 0, 1));
        bounded("copy(0, 0, .., 0, 1)", 0, 3, (x, t) -> x.copy(0, 0, t, 0, 1));
        refused("copy(3, 0, 0, 0, 1)", x -> x.copy(3, 0, 0, 0, 1), NULL);
        refused("copy(0, 0, 3, 0, 1)", x -> x.copy(0, 0, 3, 0, 1), NULL);
        refused("copy(0, 0, 1, 0, 1)", x -> x.copy(0, 0, 1, 0, 1), STORE);
        refused("copy(2, 0, 1, 0, 1)", x -> x.copy(2, 0, 1, 0, 1), STORE);
        refused("copy(2, -1, 2, 0, 1)", x -> x.copy(2, -1, 2, 0, 1), INDEX);
        refused("copy(2, 0, 2, -1, 1)", x -> x.copy(2, 0, 2, -1, 1), INDEX);
        refused("copy(2, 1, 2, 0, -1)", x -> x.copy(2, 1, 2, 0, -1), INDEX);
        refused("copy(2, 1, 2, 0, 4)", x -> x.copy(2, 1, 2, 0, 4), INDEX);
        refused("copy(2, 0, 2, 1, 4)", x -> x.copy(2, 0, 2, 1, 4), INDEX);
        refused("copy(2, 5, 2, 0, 0)", x -> x.copy(2, 5, 2, 0, 0), INDEX);
        refused("copy(2, 0, 2, 5, 0)", x -> x.copy(2, 0, 2, 5, 0), INDEX);
    }

    private static void theFirstThatFits() {
        Held.holds(2, "Refusals, the first that fits, in the order told at each act: BAD -2 (a number not as told, no "
            + "such thing), NULL, NOT -3 (as told), FULL -4, other FINDINGS.");
        refused(full(), "type: BAD ahead of FULL", x -> x.type(2, 256), BAD, 0);
        Held.holds(9, "BAD; NULL.");
        refused("read: BAD ahead of NULL", x -> x.read(3, 2), BAD);
        Held.holds(17, "BAD: also one with itself; NOT.");
        refused("pulled: BAD ahead of NOT, the day", x -> x.pulled(2, 0, 1, 0), BAD);
        refused("pulled: BAD ahead of NOT, what", x -> x.pulled(0, 0, 1, 2), BAD);
        Held.holds(21, "BAD: SHEET, FORM, above 60; SIZE.");
        refused("sheet: BAD ahead of SIZE, the sheet", x -> x.sheet(4, 0, -1), BAD);
        refused("sheet: BAD ahead of SIZE, the form", x -> x.sheet(0, 3, -1), BAD);
        Held.holds(23, "1. BAD; NULL; CAST; INDEX.");
        refused("lay: BAD ahead of NULL", x -> x.lay(3, 3, 0, 9), BAD);
        refused("lay: BAD ahead of CAST and INDEX", x -> x.lay(0, -1, 60, 9), BAD);
        refused("lay: NULL ahead of INDEX", x -> x.lay(3, 2, 60, 9), NULL);
        refused("lay: CAST ahead of INDEX", x -> x.lay(0, 1, 60, 9), CAST);
        Held.holds(24, "BAD: the least int; so are NULL, CAST, INDEX (count() 8 tells).");
        refused(usual(), "get: BAD ahead of NULL", x -> x.get(3, 3, 0), LEAST, 0);
        refused(usual(), "get: BAD ahead of CAST and INDEX", x -> x.get(0, -1, 60), LEAST, 0);
        refused(usual(), "get: NULL ahead of INDEX", x -> x.get(3, 2, 60), LEAST, 1);
        refused(usual(), "get: CAST ahead of INDEX", x -> x.get(0, 1, 60), LEAST, 3);
        Held.holds(25, "BAD: the SHEETS; NULL: s, t; STORE; INDEX");
        refused("copy: BAD ahead of NULL", x -> x.copy(3, 0, 4, 0, 1), BAD);
        refused("copy: NULL ahead of INDEX", x -> x.copy(0, -1, 3, -1, 1), NULL);
        refused("copy: STORE ahead of INDEX", x -> x.copy(0, -1, 1, 60, 1), STORE);
        Held.holds(26, "BAD; NULL.");
        refused("write: BAD ahead of NULL", x -> x.write(2, 3), BAD);
        Held.holds(27, "They change nothing (FINDINGS but count() 8).");
        refused("count: no such thing", x -> x.count(9), BAD);
    }
}
