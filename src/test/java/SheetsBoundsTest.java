/** Promises 21 to 28 at the boundaries that the document names: sheets, counts, the digest. */
public final class SheetsBoundsTest {
    private static final int NONE = Held.NONE, BAD = Held.BAD, NOT = Held.NOT, FULL = Held.FULL;
    private static final int NULL = Held.NULL, INDEX = Held.INDEX, CAST = Held.CAST, STORE = Held.STORE;
    private static final int SIZE = Held.SIZE, LEAST = Held.LEAST, GREATEST = Held.GREATEST;

    public static void main(String[] args) {
        sheetNumbers();
        itemsAreNew();
        lost();
        layNumbers();
        lowestBits();
        getNumbers();
        copyNumbers();
        copyAsManyAsThereAre();
        copyAsTheyWere();
        written();
        writeNumbers();
        counts();
        countsOfTheMeadow();
        countsOfSteps();
        latestFinding();
        digestOfNothing();
        digestAsTold();
        digestWraps();
        Held.end(21, 28);
    }

    private static void sheetNumbers() {
        Held.holds(21, "SHEETS 0 .. 3 are LOST (at first) or a row of a FORM: 0 bytes, 1 shorts, 2 ints, of 0 to 60 "
            + "items");
        TwoGoats x = new TwoGoats();
        Held.at("sheet(.., 0, 2)", s -> x.sheet(s, 0, 2), LEAST, BAD, -1, BAD, 0, 2, 1, 2, 2, 2, 3, 2, 4, BAD,
            GREATEST, BAD);
        Held.at("sheet(0, .., 3)", form -> x.sheet(0, form, 3), LEAST, BAD, -1, BAD, 0, 3, 1, 3, 2, 3, 3, BAD,
            GREATEST, BAD);
        for (int form = 0; form < 3; form++) {
            int rows = form;
            TwoGoats y = new TwoGoats();
            Held.at("sheet(1, " + form + ", ..)", n -> y.sheet(1, rows, n), LEAST, SIZE, -2, SIZE, -1, SIZE, 0, 0, 1, 1,
                59, 59, 60, 60, 61, BAD, 62, BAD, GREATEST, BAD);
            Held.at("get(1, " + form + ", ..) of 60", i -> y.get(1, rows, i), 0, 0, 59, 0, 60, LEAST);
            y.sheet(1, form, 1);
            Held.at("get(1, " + form + ", ..) of 1", i -> y.get(1, rows, i), 0, 0, 1, LEAST);
            y.sheet(1, form, 0);
            Held.at("get(1, " + form + ", ..) of 0", i -> y.get(1, rows, i), -1, LEAST, 0, LEAST);
        }

        Held.holds(21, "BAD: SHEET, FORM, above 60; SIZE.");
        Held.at("sheet(.., 0, -1)", s -> x.sheet(s, 0, -1), -1, BAD, 0, SIZE, 3, SIZE, 4, BAD);
        Held.at("sheet(0, .., -1)", form -> x.sheet(0, form, -1), -1, BAD, 0, SIZE, 2, SIZE, 3, BAD);
    }

    private static void itemsAreNew() {
        Held.holds(21, "A SHEET is a new row of a FORM with n items: n.");
        TwoGoats x = new TwoGoats();
        Held.layAll(x, 0, 2, 5, 6, 7);
        Held.due("sheet anew", x.sheet(0, 2, 2), 2);
        Held.at("get(0, 2, ..)", i -> x.get(0, 2, i), 0, 0, 1, 0, 2, LEAST);
        Held.layAll(x, 0, 2, 5, 6);
        x.sheet(0, 2, 3);
        Held.at("get(0, 2, ..)", i -> x.get(0, 2, i), 0, 0, 1, 0, 2, 0, 3, LEAST);
        Held.layAll(x, 0, 2, 5);
        x.sheet(0, 0, 1);
        Held.at("of another form: get(0, 0, ..)", i -> x.get(0, 0, i), 0, 0, 1, LEAST);
        Held.layAll(x, 0, 2, 5);
        x.sheet(0, 2, -1);
        x.sheet(0, 2, 61);
        x.sheet(0, 3, 1);
        Held.due("a refusal changes nothing", x.get(0, 2, 0), 5);
    }

    private static void lost() {
        Held.holds(22, "It is LOST: how many items it had. BAD; NULL.");
        TwoGoats x = new TwoGoats();
        x.sheet(0, 0, 0);
        x.sheet(1, 1, 1);
        x.sheet(2, 2, 59);
        x.sheet(3, 0, 60);
        Held.at("lose", x::lose, LEAST, BAD, -1, BAD, 4, BAD, GREATEST, BAD, 0, 0, 1, 1, 2, 59, 3, 60, 0, NULL, 1, NULL,
            2, NULL, 3, NULL);
        x.sheet(3, 1, 2);
        Held.due("a new row is not lost", x.lose(3), 2);
        Held.due("a row that is lost", x.get(3, 1, 0), LEAST);
        Held.due("the finding", x.count(8), 1);
    }

    private static void layNumbers() {
        Held.holds(23, "Item i, treated as of a FORM, becomes v");
        TwoGoats x = new TwoGoats();
        x.sheet(0, 0, 3);
        x.sheet(1, 1, 1);
        x.sheet(3, 2, 60);
        Held.at("lay(0, 0, .., 7)", i -> x.lay(0, 0, i, 7), LEAST, INDEX, -1, INDEX, 0, 1, 2, 1, 3, INDEX,
            GREATEST, INDEX);
        Held.at("get(0, 0, ..)", i -> x.get(0, 0, i), 0, 7, 1, 0, 2, 7);
        Held.at("lay(3, 2, .., 7)", i -> x.lay(3, 2, i, 7), -1, INDEX, 0, 1, 59, 1, 60, INDEX, 61, INDEX);
        Held.at("get(3, 2, ..)", i -> x.get(3, 2, i), 0, 7, 58, 0, 59, 7);

        Held.holds(23, "1. BAD; NULL; CAST; INDEX.");
        Held.at("lay(.., 0, 0, 7)", s -> x.lay(s, 0, 0, 7), LEAST, BAD, -1, BAD, 0, 1, 1, CAST, 2, NULL, 3, CAST,
            4, BAD, GREATEST, BAD);
        Held.at("lay(1, .., 0, 7)", form -> x.lay(1, form, 0, 7), LEAST, BAD, -1, BAD, 0, CAST, 1, 1, 2, CAST, 3, BAD,
            GREATEST, BAD);
        Held.at("lay(1, .., 1, 7)", form -> x.lay(1, form, 1, 7), -1, BAD, 0, CAST, 1, INDEX, 2, CAST, 3, BAD);
        Held.at("lay(2, .., -1, 7)", form -> x.lay(2, form, -1, 7), -1, BAD, 0, NULL, 1, NULL, 2, NULL, 3, BAD);
        x.sheet(2, 0, 0);
        Held.due("lay in no items", x.lay(2, 0, 0, 7), INDEX);
    }

    private static void dueLaid(TwoGoats x, int form, int v, int want) {
        Held.due("lay of " + v + " as form " + form, x.lay(form, form, 0, v), 1);
        Held.due("get of " + v + " as form " + form, x.get(form, form, 0), want);
    }

    private static void lowestBits() {
        Held.holds(23, "the lowest bits that it has, with its sign");
        TwoGoats x = new TwoGoats();
        for (int form = 0; form < 3; form++) {
            x.sheet(form, form, 1);
        }
        int[][] bytes = {
            {126, 126}, {127, 127}, {128, -128}, {129, -127}, {255, -1}, {256, 0}, {257, 1}, {-127, -127}, {-128, -128},
            {-129, 127}, {-256, 0}, {-257, -1}, {LEAST, 0}, {GREATEST, -1}, {0x12348081, -127},
        };
        for (int[] one : bytes) {
            dueLaid(x, 0, one[0], one[1]);
        }
        int[][] shorts = {
            {128, 128}, {32766, 32766}, {32767, 32767}, {32768, -32768}, {32769, -32767}, {65535, -1}, {65536, 0},
            {-32767, -32767}, {-32768, -32768}, {-32769, 32767}, {-65536, 0}, {LEAST, 0}, {GREATEST, -1},
        };
        for (int[] one : shorts) {
            dueLaid(x, 1, one[0], one[1]);
        }
        for (int v : new int[] {LEAST, LEAST + 1, -65537, -1, 0, 1, 32768, 65536, GREATEST - 1, GREATEST}) {
            dueLaid(x, 2, v, v);
        }
    }

    private static void getNumbers() {
        Held.holds(24, "Item i of it. BAD: the least int; so are NULL, CAST, INDEX (count() 8 tells).");
        TwoGoats x = new TwoGoats();
        Held.layAll(x, 0, 1, 4, 5, 6);
        x.sheet(3, 1, 0);
        Held.at("get(0, 1, ..)", i -> x.get(0, 1, i), LEAST, LEAST, -1, LEAST, 0, 4, 1, 5, 2, 6, 3, LEAST,
            GREATEST, LEAST);
        Held.due("index", x.count(8), 2);
        Held.due("null", x.get(1, 1, 0), LEAST);
        Held.due("null", x.count(8), 1);
        Held.due("cast to less", x.get(0, 0, 0), LEAST);
        Held.due("cast to less", x.count(8), 3);
        Held.due("null, and no such item", x.get(1, 1, -1), LEAST);
        Held.due("null, and no such item", x.count(8), 1);
        Held.due("cast to more, and no such item", x.get(0, 2, 3), LEAST);
        Held.due("cast to more, and no such item", x.count(8), 3);
        Held.due("index of no items", x.get(3, 1, 0), LEAST);
        Held.due("index of no items", x.count(8), 2);
        x.lose(2);
        for (int wrong : new int[] {LEAST, -1, 4, GREATEST}) {
            Held.due("bad sheet " + wrong, x.get(wrong, 1, 0), LEAST);
        }
        for (int wrong : new int[] {LEAST, -1, 3, GREATEST}) {
            Held.due("bad form " + wrong, x.get(0, wrong, 0), LEAST);
            Held.due("bad form ahead of null " + wrong, x.get(2, wrong, 0), LEAST);
        }
        Held.due("bad is no finding", x.count(8), 1);
        x.lay(0, 1, 0, LEAST);
        Held.due("an item that is 0", x.get(0, 1, 0), 0);
        Held.layAll(x, 2, 2, LEAST);
        Held.due("an item that is the least int", x.get(2, 2, 0), LEAST);
        Held.due("an item is no finding", x.count(8), 1);
    }

    private static void copyNumbers() {
        Held.holds(25, "BAD: the SHEETS; NULL: s, t; STORE; INDEX");
        TwoGoats x = new TwoGoats();
        Held.layAll(x, 0, 0, 1, 2, 3);
        x.sheet(1, 0, 3);
        x.sheet(2, 1, 3);
        Held.at("copy(.., 0, 0, 0, 1)", s -> x.copy(s, 0, 0, 0, 1), LEAST, BAD, -1, BAD, 0, 1, 1, 1, 2, STORE, 3, NULL,
            4, BAD, GREATEST, BAD);
        Held.at("copy(0, 0, .., 0, 1)", t -> x.copy(0, 0, t, 0, 1), LEAST, BAD, -1, BAD, 0, 1, 1, 1, 2, STORE, 3, NULL,
            4, BAD, GREATEST, BAD);
        Held.due("bad ahead of null", x.copy(3, 0, 4, 0, 1), BAD);
        Held.due("bad ahead of null", x.copy(-1, 0, 3, 0, 1), BAD);
        Held.due("null ahead of store and index", x.copy(2, -1, 3, -1, -1), NULL);
        Held.due("null of both", x.copy(3, 0, 3, 0, 0), NULL);
        Held.due("store ahead of index", x.copy(0, -1, 2, 0, 1), STORE);
        Held.due("store ahead of index", x.copy(2, 0, 0, 0, 4), STORE);
        Held.due("store of none", x.copy(0, 0, 2, 0, 0), STORE);
        x.sheet(3, 2, 3);
        Held.due("store: shorts to ints", x.copy(2, 0, 3, 0, 1), STORE);
        Held.due("store: ints to shorts", x.copy(3, 0, 2, 0, 1), STORE);
    }

    private static void copyAsManyAsThereAre() {
        Held.holds(25, "INDEX: below 0, not so many (with n 0, too, if i or j is above how many there are).");
        TwoGoats x = new TwoGoats();
        x.sheet(0, 2, 5);
        x.sheet(1, 2, 3);
        Held.at("copy(0, .., 1, 0, 0)", i -> x.copy(0, i, 1, 0, 0), LEAST, INDEX, -1, INDEX, 0, 1, 4, 1, 5, 1, 6, INDEX,
            GREATEST, INDEX);
        Held.at("copy(0, .., 1, 0, 1)", i -> x.copy(0, i, 1, 0, 1), LEAST, INDEX, -1, INDEX, 0, 1, 4, 1, 5, INDEX,
            GREATEST, INDEX);
        Held.at("copy(0, .., 1, 0, 3)", i -> x.copy(0, i, 1, 0, 3), -1, INDEX, 0, 1, 2, 1, 3, INDEX);
        Held.at("copy(0, 0, 1, .., 0)", j -> x.copy(0, 0, 1, j, 0), LEAST, INDEX, -1, INDEX, 0, 1, 2, 1, 3, 1, 4, INDEX,
            GREATEST, INDEX);
        Held.at("copy(0, 0, 1, .., 1)", j -> x.copy(0, 0, 1, j, 1), LEAST, INDEX, -1, INDEX, 0, 1, 2, 1, 3, INDEX,
            GREATEST, INDEX);
        Held.at("copy(0, 0, 1, 0, ..)", n -> x.copy(0, 0, 1, 0, n), LEAST, INDEX, -1, INDEX, 0, 1, 1, 1, 3, 1, 4, INDEX,
            GREATEST, INDEX);
        Held.at("copy(1, 0, 0, 0, ..)", n -> x.copy(1, 0, 0, 0, n), LEAST, INDEX, -1, INDEX, 0, 1, 3, 1, 4, INDEX,
            GREATEST, INDEX);
        Held.at("copy(0, 2, 0, 1, ..)", n -> x.copy(0, 2, 0, 1, n), -1, INDEX, 0, 1, 3, 1, 4, INDEX);
        Held.at("copy(0, 5, 1, 3, ..)", n -> x.copy(0, 5, 1, 3, n), -1, INDEX, 0, 1, 1, INDEX);
        Held.due("the greatest of all", x.copy(0, GREATEST, 1, GREATEST, GREATEST), INDEX);
        x.sheet(2, 2, 0);
        Held.at("copy(2, .., 2, 0, 0) of no items", i -> x.copy(2, i, 2, 0, 0), -1, INDEX, 0, 1, 1, INDEX);
        Held.due("one of no items", x.copy(2, 0, 2, 0, 1), INDEX);
        x.sheet(3, 2, 60);
        Held.at("copy(3, 0, 3, 0, ..) of 60 items", n -> x.copy(3, 0, 3, 0, n), 59, 1, 60, 1, 61, INDEX);
    }

    private static void dueItems(TwoGoats x, int s, int form, int... want) {
        for (int i = 0; i < want.length; i++) {
            Held.due("item " + i + " of sheet " + s, x.get(s, form, i), want[i]);
        }
        Held.due("behind the last item of sheet " + s, x.get(s, form, want.length), LEAST);
    }

    private static void copyAsTheyWere() {
        Held.holds(25, "n items of SHEET s, from i on, come to SHEET t (perhaps s, as they were), from j on: 1.");
        for (int form = 0; form < 3; form++) {
            TwoGoats x = new TwoGoats();
            Held.layAll(x, 0, form, 1, 2, 3, 4, 5);
            Held.layAll(x, 1, form, 6, 7, 8);
            Held.due("copy", x.copy(0, 3, 1, 1, 2), 1);
            dueItems(x, 1, form, 6, 4, 5);
            Held.due("copy of none", x.copy(0, 0, 1, 0, 0), 1);
            dueItems(x, 1, form, 6, 4, 5);
            Held.due("copy of too many", x.copy(0, 0, 1, 0, 4), INDEX);
            dueItems(x, 1, form, 6, 4, 5);
            Held.due("copy onwards", x.copy(0, 0, 0, 1, 4), 1);
            dueItems(x, 0, form, 1, 1, 2, 3, 4);
            Held.due("copy backwards", x.copy(0, 2, 0, 0, 3), 1);
            dueItems(x, 0, form, 2, 3, 4, 3, 4);
            Held.due("copy onto itself", x.copy(0, 0, 0, 0, 5), 1);
            dueItems(x, 0, form, 2, 3, 4, 3, 4);
        }
    }

    private static void written() {
        Held.holds(26, "from item 0 on, as many as there are items and PATHS: how many.");
        for (int form = 0; form < 3; form++) {
            for (int items = 0; items <= 5; items++) {
                TwoGoats x = Held.with("011;021;131", "aBc");
                x.sheet(0, form, items);
                for (int i = 0; i < items; i++) {
                    x.lay(0, form, i, 77);
                }
                int[] want = {2, 0, 1, 77, 77};
                Held.due("3 paths to " + items + " items", x.write(0, 0), Math.min(items, 3));
                dueItems(x, 0, form, java.util.Arrays.copyOf(want, items));
                Held.due("no paths to " + items + " items", x.write(1, 0), 0);
                dueItems(x, 0, form, java.util.Arrays.copyOf(want, items));
            }
        }
        TwoGoats x = Held.with("011;011", "ab".repeat(9));
        x.set(2, 18);
        x.sheet(0, 0, 17);
        Held.due("18 paths to 17 items", x.write(0, 0), 17);
        x.sheet(0, 0, 18);
        Held.due("18 paths to 18 items", x.write(0, 0), 18);
        x.sheet(0, 0, 60);
        Held.due("18 paths to 60 items", x.write(0, 0), 18);
        Held.at("get(0, 0, ..)", i -> x.get(0, 0, i), 0, 1, 17, 0, 18, 0);

        Held.holds(26, "PATHS of the ROPE where a DAY ends come to a SHEET (of each the lowest bits that an item has, "
            + "with its sign)");
        for (int form = 0; form < 3; form++) {
            TwoGoats y = Held.with(Held.EIGHT, "ahx");
            y.sheet(0, form, 2);
            Held.due("the greatest path and the least", y.write(0, 0), 2);
            dueItems(y, 0, form, 7, 0);
        }
    }

    private static void writeNumbers() {
        Held.holds(26, "as many as there are items and PATHS: how many. BAD; NULL.");
        TwoGoats x = Held.with("011", "a");
        x.sheet(0, 0, 1);
        x.sheet(3, 0, 1);
        Held.at("write(0, ..)", s -> x.write(0, s), LEAST, BAD, -1, BAD, 0, 1, 1, NULL, 2, NULL, 3, 1, 4, BAD,
            GREATEST, BAD);
        Held.at("write(.., 0)", day -> x.write(day, 0), LEAST, BAD, -1, BAD, 0, 1, 1, 0, 2, BAD, GREATEST, BAD);
        Held.at("write(.., 1)", day -> x.write(day, 1), -1, BAD, 0, NULL, 1, NULL, 2, BAD);
    }

    private static void counts() {
        Held.holds(27, "0 PATHS, 1 to 3 bytes of texts 0 to 2, 4 YARDS of all PATHS, 5 WORTH of all THISTLES, "
            + "6, 7 steps that are done of DAYS 0, 1, 8 the number of the latest FINDING (0 before any). BAD.");
        TwoGoats x = Held.with("012;123", "abx");
        Held.typeAll(x, 2, "AxAAA");
        x.thistle(0, 3);
        x.thistle(7, 6);
        x.sheet(0, 0, -1);
        Held.at("count", x::count, LEAST, BAD, -1, BAD, 0, 2, 1, 7, 2, 3, 3, 5, 4, 5, 5, 9, 6, 2, 7, 1, 8, 5, 9, BAD,
            10, BAD, GREATEST, BAD);
    }

    private static void countsOfTheMeadow() {
        Held.holds(27, "4 YARDS of all PATHS, 5 WORTH of all THISTLES");
        TwoGoats x = Held.with("019;019;019;019;019;019;019;019", "");
        Held.at("count", x::count, 0, 8, 1, 31, 4, 72);
        x.type(0, ';');
        Held.at("count", x::count, 0, 0, 1, 32, 4, 0);
        for (int place = 0; place < 8; place++) {
            x.thistle(place, 99);
            Held.due("all thistles", x.count(5), 99 * (place + 1));
        }
        TwoGoats y = Held.with("011", "a");
        y.thistle(1, 99);
        Held.due("eaten", y.state(0, 1, 4), 99);
        Held.due("all that are set, eaten or not", y.count(5), 99);
    }

    private static void countsOfSteps() {
        Held.holds(27, "6, 7 steps that are done of DAYS 0, 1");
        TwoGoats x = new TwoGoats();
        Held.typeAll(x, 0, "011");
        for (int n = 0; n <= 40; n++) {
            Held.due("steps of day 0", x.count(6), n);
            Held.due("steps of day 1", x.count(7), Math.min(n, 20));
            x.type(1, 'a');
            x.type(2, n == 20 ? 'x' : 'A');
        }
    }

    private static void latestFinding() {
        Held.holds(27, "8 the number of the latest FINDING (0 before any). BAD.");
        TwoGoats x = new TwoGoats();
        Held.due("before any", x.count(8), 0);
        x.sheet(1, 0, 61);
        x.undo(0);
        x.type(3, 0);
        Held.due("no refusal but a finding counts", x.count(8), 0);
        x.sheet(1, 0, 1);
        Held.holds(27, "1 NULL: the SHEET is LOST");
        Held.due("null", x.lose(0), NULL);
        Held.due("null", x.count(8), 1);
        Held.holds(27, "2 INDEX: there is no such item");
        Held.due("index", x.lay(1, 0, 1, 0), INDEX);
        Held.due("index", x.count(8), 2);
        Held.holds(27, "3 CAST: it has another FORM");
        Held.due("cast", x.lay(1, 1, 0, 0), CAST);
        Held.due("cast", x.count(8), 3);
        Held.holds(27, "4 STORE: unlike FORMS");
        x.sheet(2, 1, 1);
        Held.due("store", x.copy(1, 0, 2, 0, 1), STORE);
        Held.due("store", x.count(8), 4);
        Held.holds(27, "5 SIZE: below 0");
        Held.due("size", x.sheet(1, 0, -1), SIZE);
        Held.due("size", x.count(8), 5);
        Held.due("what is no finding leaves it", x.lay(1, 0, 0, 9) + x.lose(1) + x.lose(9), BAD + 2);
        Held.due("the latest one", x.count(8), 5);
        Held.holds(27, "FINDINGS (answers -10 less the number; they change nothing but count() 8)");
        Held.due("null again", x.write(0, 0), -10 - 1);
        Held.due("the latest one", x.count(8), 1);
    }

    // ---- the digest

    private static long next(long h, long v) {
        return 31 * h + v;
    }

    /** The digest by the calls that the document names, each asked by itself. */
    private static long digestByCalls(TwoGoats x) {
        long h = 17;
        for (int what = 0; what <= 7; what++) {
            h = next(h, x.count(what));
        }
        h = next(h, x.fault());
        for (int path = 0; path < x.count(0); path++) {
            for (int what = 0; what <= 2; what++) {
                h = next(h, x.path(path, what));
            }
        }
        for (int day = 0; day <= 1; day++) {
            int done = x.count(6 + day);
            h = next(h, x.judged(day));
            for (int what = 0; what <= 7; what++) {
                h = next(h, x.state(day, done, what));
            }
            h = next(next(h, x.rope(day, done, 0)), x.needs(day));
            h = next(next(h, x.soon(day, 0, 1)), x.soon(day, 2, 2));
            h = next(h, x.loose(day));
            h = next(next(h, x.began(day, 0)), x.began(day, 1));
            h = next(next(h, x.game(day, 3, 0)), x.game(day, 3, 1));
        }
        h = next(next(h, x.pulled(0, 0, 1, 0)), x.pulled(0, 0, 1, 1));
        return next(h, x.alike());
    }

    private static void digestOfNothing() {
        Held.holds(28, "h is 17; h becomes 31 h and each of (of each thing all that is told of it, then of the next "
            + "one): count() 0 to 7; fault(); of PATHS path() 0 to 2");
        long h = 17;
        for (int what = 0; what <= 7; what++) {
            h = next(h, 0);
        }
        h = next(h, NONE);
        int[] ofADay = {NONE, 0, 0, 0, 0, 0, 0, 0, 0, NONE, 0, NONE, NONE, 0, 0, NONE, 0, NONE};
        for (int day = 0; day <= 1; day++) {
            for (int told : ofADay) {
                h = next(h, told);
            }
        }
        h = next(next(next(h, BAD), BAD), 1);
        TwoGoats x = new TwoGoats();
        Held.due("digest of a new object", x.digest(), h);
        Held.due("digest once more", x.digest(), h);
        x.sheet(0, 0, -1);
        x.sheet(0, 0, 3);
        Held.due("neither findings nor sheets are in it", x.digest(), h);
        Held.due("it is no finding", x.count(8), 5);
        for (int paths = 1; paths <= 8; paths++) {
            Held.typeAll(x, 0, (paths == 1 ? "" : ";") + "0" + (paths % 7 + 1) + paths);
            Held.due("digest of " + paths + " paths", x.digest(), digestByCalls(x));
        }
        x.type(0, ';');
        Held.due("digest of nine paths, not ended", x.digest(), digestByCalls(x));
    }

    private static void digestAsTold() {
        Held.holds(28, "state() behind all steps that are done 0 to 7, rope() there 0, needs(), soon(it, 0, 1), "
            + "soon(it, 2, 2) (as they are told)");
        TwoGoats full = Held.with(Held.EIGHT, "ab");
        Held.due("soon is full", full.soon(0, 2, 2), FULL);
        Held.due("digest", full.digest(), digestByCalls(full));
        TwoGoats none = Held.with("011;231", "ax");
        Held.due("soon is none", none.soon(0, 2, 2), NONE);
        Held.due("digest", none.digest(), digestByCalls(none));
        TwoGoats both = Held.with("012;123;203", "aBx");
        Held.typeAll(both, 2, "CacaAbx");
        Held.due("soon is a number", both.soon(1, 2, 2) >= 0 ? 1 : 0, 1);
        for (int reach = 1; reach <= 18; reach++) {
            both.set(2, reach);
            both.set(0, reach % 2 == 0 ? 6 : 5);
            both.set(1, reach % 3 == 0 ? 9 : 5);
            both.thistle(reach % 4, reach);
            Held.due("digest at reach " + reach, both.digest(), digestByCalls(both));
        }

        Held.holds(28, "pulled(0, 0, 1, 0 and 1) (as it is told), alike()");
        TwoGoats not = Held.with("011;122", "ab");
        Held.due("pulled is not", not.pulled(0, 0, 1, 0), NOT);
        Held.due("digest", not.digest(), digestByCalls(not));
        TwoGoats bad = Held.with("011", "a");
        Held.due("pulled is bad", bad.pulled(0, 0, 1, 0), BAD);
        Held.due("digest", bad.digest(), digestByCalls(bad));
        TwoGoats one = Held.with("013;102", "a");
        Held.due("pulled is a number of paths", one.pulled(0, 0, 1, 0), 1);
        Held.due("pulled is a number of yards", one.pulled(0, 0, 1, 1), 2);
        Held.due("digest", one.digest(), digestByCalls(one));
    }

    private static void digestWraps() {
        Held.holds(28, "as longs that wrap");
        java.math.BigInteger h = java.math.BigInteger.valueOf(17);
        int[] told = new int[48];
        for (int at : new int[] {8, 9, 18, 20, 21, 24, 26, 27, 36, 38, 39, 42, 44}) {
            told[at] = NONE;
        }
        told[45] = BAD;
        told[46] = BAD;
        told[47] = 1;
        for (int v : told) {
            h = h.multiply(java.math.BigInteger.valueOf(31)).add(java.math.BigInteger.valueOf(v));
        }
        Held.due("more than 64 bits", h.bitLength() > 64 ? 1 : 0, 1);
        Held.due("its lowest 64 bits", new TwoGoats().digest(), h.longValue());
    }
}
