/** Promises 1 to 10 at the boundaries that the document names: a new object, the meadow, the days, what is set. */
public final class MeadowAndDaysBoundsTest {
    private static final int NONE = Held.NONE, BAD = Held.BAD, NOT = Held.NOT, FULL = Held.FULL;

    public static void main(String[] args) {
        aNewObject();
        atMost512Calls();
        bytesAndTexts();
        upTo40Bytes();
        wiped();
        anEmptyTextIsWell();
        notEnded();
        placesAndYards();
        theSecondPlace();
        theNinthPath();
        asIfItWasEmpty();
        pathsAndTheirFigures();
        starts();
        bothStandAtTheStart();
        heavy();
        reach();
        worth();
        readItems();
        readAsLongAs();
        readAtMost40();
        readALostSheet();
        undone();
        Held.end(1, 10);
    }

    private static void aNewObject() {
        TwoGoats x = new TwoGoats();
        Held.holds(1, "An empty MEADOW, empty DAYS; all SHEETS are LOST.");
        Held.at("count", x::count, -1, BAD, 0, 0, 1, 0, 2, 0, 3, 0, 4, 0, 5, 0, 6, 0, 7, 0, 8, 0, 9, BAD);
        Held.due("fault", x.fault(), NONE);
        Held.at("path(.., 0)", p -> x.path(p, 0), -1, BAD, 0, BAD, 1, BAD);
        Held.at("undo", x::undo, -1, BAD, 0, NOT, 1, NOT, 2, BAD);
        Held.at("judged", x::judged, -1, BAD, 0, NONE, 1, NONE, 2, BAD);
        Held.at("state(0, 0, ..)", w -> x.state(0, 0, w), 0, 0, 1, 0, 2, 0, 3, 0, 4, 0, 5, 0, 6, 0, 7, 0);
        Held.at("state(1, 0, ..)", w -> x.state(1, 0, w), 0, 0, 1, 0, 2, 0, 3, 0, 4, 0, 5, 0, 6, 0, 7, 0);
        Held.due("alike", x.alike(), 1);
        Held.holds(1, "SHEETS 0 .. 3 are LOST (at first)");
        Held.at("lose", x::lose, -1, BAD, 0, Held.NULL, 1, Held.NULL, 2, Held.NULL, 3, Held.NULL, 4, BAD);
    }

    private static void atMost512Calls() {
        Held.holds(1, "An object is used for at most 512 calls after it has been made");
        long asNew = new TwoGoats().digest();
        TwoGoats x = new TwoGoats();
        for (int n = 1; n <= 509; n++) {
            Held.due("call " + n + ": type", x.type(1, 'a'), n <= 40 ? n : FULL);
        }
        Held.due("call 510: count(2)", x.count(2), 40);
        Held.due("call 511: wipe(1)", x.wipe(1), 40);
        Held.due("call 512: digest", x.digest(), asNew);
    }

    private static void bytesAndTexts() {
        Held.holds(2, "A byte (0 to 255) comes behind a text (0 to 2): how many.");
        for (int text = 0; text < 3; text++) {
            int typed = text;
            TwoGoats x = new TwoGoats();
            Held.at("type(" + text + ", ..)", b -> x.type(typed, b), -1, BAD, 0, 1, 1, 2, 254, 3, 255, 4, 256, BAD,
                256 + 'a', BAD, Held.LEAST, BAD, Held.GREATEST, BAD, 'a', 5);
            Held.at("count", x::count, 1, text == 0 ? 5 : 0, 2, text == 1 ? 5 : 0, 3, text == 2 ? 5 : 0);
        }
        TwoGoats x = new TwoGoats();
        Held.at("type(.., 97)", text -> x.type(text, 97), Held.LEAST, BAD, -1, BAD, 0, 1, 1, 1, 2, 1, 3, BAD,
            Held.GREATEST, BAD);
        Held.at("count", x::count, 1, 1, 2, 1, 3, 1);
    }

    private static void upTo40Bytes() {
        Held.holds(2, "is a text of up to 40 bytes");
        for (int text = 0; text < 3; text++) {
            TwoGoats x = new TwoGoats();
            for (int n = 1; n <= 39; n++) {
                x.type(text, 0);
            }
            Held.due("39 bytes of text " + text, x.count(1 + text), 39);
            Held.due("byte 40 of text " + text, x.type(text, 0), 40);
            Held.due("byte 41 of text " + text, x.type(text, 0), FULL);
            Held.due("40 bytes of text " + text, x.count(1 + text), 40);
            Held.due("a byte of another text", x.type((text + 1) % 3, 0), 1);
        }
        TwoGoats x = Held.with("", "a".repeat(40));
        x.undo(0);
        Held.due("byte 40 again, once it is undone", x.type(1, 'A'), 40);
        Held.due("byte 41", x.type(1, 'A'), FULL);

        Held.holds(2, "BAD; FULL.");
        Held.due("a wrong byte behind 40", x.type(1, 256), BAD);
        Held.due("a wrong byte behind 40", x.type(1, -1), BAD);
        Held.due("a byte behind 40", x.type(1, 255), FULL);
    }

    private static void wiped() {
        Held.holds(3, "A text is empty: how many bytes it had. BAD.");
        for (int text = 0; text < 3; text++) {
            TwoGoats x = new TwoGoats();
            Held.due("wipe of 0 bytes of text " + text, x.wipe(text), 0);
            Held.typeAll(x, text, "0");
            Held.due("wipe of 1 byte of text " + text, x.wipe(text), 1);
            Held.due("wiped: 0 bytes", x.count(1 + text), 0);
            Held.typeAll(x, text, "0".repeat(39));
            Held.due("wipe of 39 bytes of text " + text, x.wipe(text), 39);
            Held.typeAll(x, text, "0".repeat(41));
            Held.due("wipe of 40 bytes of text " + text, x.wipe(text), 40);
            Held.due("the first byte behind a wipe", x.type(text, 0), 1);
        }
        TwoGoats x = new TwoGoats();
        Held.typeAll(x, 0, "0");
        Held.typeAll(x, 1, "aa");
        Held.typeAll(x, 2, "aaa");
        Held.at("wipe", x::wipe, Held.LEAST, BAD, -1, BAD, 3, BAD, Held.GREATEST, BAD, 0, 1, 1, 2, 2, 3);
    }

    private static void dueFault(String meadow, int want) {
        TwoGoats x = Held.with(meadow, "");
        Held.due("fault of " + meadow, x.fault(), want);
        Held.due("paths of " + meadow, x.count(0), want == NONE ? (meadow.length() + 1) / 4 : 0);
    }

    private static void anEmptyTextIsWell() {
        Held.holds(4, "an empty text is well");
        TwoGoats x = new TwoGoats();
        Held.due("fault of a new meadow", x.fault(), NONE);
        x.type(0, '0');
        Held.due("fault of one byte", x.fault(), 1);
        x.wipe(0);
        Held.due("fault of a wiped meadow", x.fault(), NONE);

        Held.holds(4, "The FAULT of THE MEADOW; NONE.");
        Held.typeAll(x, 0, "01");
        Held.due("fault of 01", x.fault(), 2);
        x.type(0, '9');
        Held.due("fault of 019", x.fault(), NONE);
        x.type(0, '9');
        Held.due("fault of 0199", x.fault(), 3);
    }

    private static void notEnded() {
        Held.holds(4, "of one that is not ended, as behind a ;, its end");
        String meadow = "071;701;019;123;345;567;012;211";
        TwoGoats x = new TwoGoats();
        for (int n = 1; n <= meadow.length(); n++) {
            x.type(0, meadow.charAt(n - 1));
            Held.due("fault behind " + n + " bytes", x.fault(), n % 4 == 3 ? NONE : n);
            Held.due("paths behind " + n + " bytes", x.count(0), n % 4 == 3 ? (n + 1) / 4 : 0);
        }
    }

    /** The fault of a beginning and each of the 256 bytes: its end, or the end of both where the byte fits. */
    private static void dueOfEachByte(String begin, String fitting, boolean isEnded) {
        for (int b = 0; b < 256; b++) {
            boolean fits = fitting.indexOf(b) >= 0;
            int wellEnd = isEnded ? NONE : begin.length() + 1;
            TwoGoats x = Held.with(begin, "");
            x.type(0, b);
            Held.due("fault of " + begin + " and byte " + b, x.fault(), fits ? wellEnd : begin.length());
        }
    }

    private static void placesAndYards() {
        Held.holds(4, "the figures of two PLACES (0 to 7; not one; perhaps such as are told already)");
        dueOfEachByte("", "01234567", false);
        dueOfEachByte("0", "1234567", false);
        dueOfEachByte("3", "0124567", false);
        dueOfEachByte("7", "0123456", false);
        dueOfEachByte("071;", "01234567", false);
        dueOfEachByte("071;0", "1234567", false);
        dueFault("071;071", NONE);
        dueFault("071;701;071", NONE);

        Held.holds(4, "and of YARDS (1 to 9)");
        dueOfEachByte("01", "123456789", true);
        dueOfEachByte("019;70", "123456789", true);

        Held.holds(4, "PATHS with ; between them");
        dueOfEachByte("011", ";", false);
        dueOfEachByte("011;709", ";", false);
        dueFault(";011", 0);
        dueFault("011;;011", 4);
        dueFault("011 ;011", 3);

        Held.holds(4, "is the place of the first byte with which it cannot go on");
        dueFault("8x:;", 0);
        dueFault("08:;", 1);
        dueFault("010;", 2);
        dueFault("0111;", 3);
        dueFault("011;012;8", 8);
        dueFault("011;012;0", 9);
        dueFault("8".repeat(40), 0);
    }

    private static void theSecondPlace() {
        Held.holds(4, "of the second PLACE, if it is the first");
        for (char place = '0'; place <= '7'; place++) {
            char next = place == '7' ? '0' : (char) (place + 1);
            dueFault("" + place + place, 1);
            dueFault("" + place + place + "1", 1);
            dueFault("" + place + next, 2);
            dueFault("" + place + next + "1", NONE);
            dueFault("011;" + place + place + "1", 5);
            dueFault("011;" + place + next + "1", NONE);
        }
    }

    private static void theNinthPath() {
        Held.holds(4, "or of the first byte of a ninth");
        String eight = Held.EIGHT;
        dueFault("011;".repeat(6) + "011", NONE);
        dueFault("011;".repeat(7), 28);
        dueFault(eight, NONE);
        dueFault(eight + ";", 32);
        dueFault(eight + ";0", 32);
        dueFault(eight + ";01", 32);
        dueFault(eight + ";011", 32);
        dueFault(eight + ";011;0112", 32);
        dueOfEachByte(eight, ";", false);
        for (int b = 0; b < 256; b++) {
            dueFault(eight + ";" + (char) b, 32);
        }
    }

    private static void asIfItWasEmpty() {
        Held.holds(4, "with a FAULT it is as if it was empty");
        TwoGoats x = Held.with("012;102", "aB");
        Held.due("two paths: judged", x.judged(0), NONE);
        for (String fault : new String[] {";", "x"}) {
            Held.typeAll(x, 0, fault);
            Held.at("count", x::count, 0, 0, 4, 0, 6, 0);
            Held.at("path(.., 2)", p -> x.path(p, 2), 0, BAD, 1, BAD);
            Held.at("judged", x::judged, 0, 0, 1, NONE);
            Held.due("state(0, 1, 0)", x.state(0, 1, 0), BAD);
            Held.due("needs", x.needs(0), 0);
            Held.due("soon(0, 1, 0)", x.soon(0, 1, 0), NONE);
            Held.due("pulled(0, 0, 1, 0)", x.pulled(0, 0, 1, 0), BAD);
            Held.at("began(0, ..)", p -> x.began(0, p), 0, 0, 1, NONE);
        }
        Held.due("the bytes are there", x.count(1), 9);
        Held.retype(x, 0, "012;102");
        Held.at("count", x::count, 0, 2, 4, 4, 6, 2);
        Held.due("without a fault: judged", x.judged(0), NONE);
    }

    private static void pathsAndTheirFigures() {
        Held.holds(5, "Of a PATH: its PLACES (what = 0, 1), YARDS (2). BAD.");
        TwoGoats x = Held.with("071;709;345", "");
        Held.at("path(.., 0)", p -> x.path(p, 0), Held.LEAST, BAD, -1, BAD, 0, 0, 1, 7, 2, 3, 3, BAD, 7, BAD, 8, BAD,
            Held.GREATEST, BAD);
        Held.at("path(0, ..)", w -> x.path(0, w), Held.LEAST, BAD, -1, BAD, 0, 0, 1, 7, 2, 1, 3, BAD,
            Held.GREATEST, BAD);
        Held.at("path(1, ..)", w -> x.path(1, w), -1, BAD, 0, 7, 1, 0, 2, 9, 3, BAD);
        Held.at("path(2, ..)", w -> x.path(2, w), -1, BAD, 0, 3, 1, 4, 2, 5, 3, BAD);

        Held.holds(5, "8 at most (a, b, .. h; 0 on)");
        TwoGoats y = Held.with("011;012;013;014;015;016;017;018", "");
        Held.at("path(.., 2)", p -> y.path(p, 2), -1, BAD, 0, 1, 1, 2, 6, 7, 7, 8, 8, BAD);
        Held.at("count", y::count, 0, 8, 4, 36);
        Held.typeAll(y, 0, ";019");
        Held.at("path(.., 2) of nine", p -> y.path(p, 2), -1, BAD, 0, BAD, 7, BAD, 8, BAD);
    }

    private static void starts() {
        Held.holds(6, "START of a DAY: what it was. BAD.");
        TwoGoats x = new TwoGoats();
        Held.at("start(0, ..)", p -> x.start(0, p), Held.LEAST, BAD, -1, BAD, 8, BAD, Held.GREATEST, BAD, 0, 0, 7, 0,
            1, 7, 6, 1, 0, 6);
        Held.at("start(.., 3)", day -> x.start(day, 3), Held.LEAST, BAD, -1, BAD, 2, BAD, Held.GREATEST, BAD, 0, 0,
            1, 0, 0, 3, 1, 3);

        Held.holds(6, "START of a DAY (a PLACE; 0 at first)");
        TwoGoats y = new TwoGoats();
        Held.at("start(.., 7)", day -> y.start(day, 7), 0, 0, 1, 0, 0, 7, 1, 7);
    }

    private static void bothStandAtTheStart() {
        Held.holds(6, "both goats stand there, and the ROPE lies in no PATH");
        TwoGoats x = Held.with("071;172", "a");
        for (int place = 0; place < 8; place++) {
            x.start(0, place);
            x.start(1, 7 - place);
            Held.due("state(0, 0, 0)", x.state(0, 0, 0), place);
            Held.due("state(0, 0, 1)", x.state(0, 0, 1), place);
            Held.due("state(0, 0, 2)", x.state(0, 0, 2), 0);
            Held.due("state(0, 0, 3)", x.state(0, 0, 3), 0);
            Held.due("rope(0, 0, 0)", x.rope(0, 0, 0), NONE);
            Held.due("state(1, 0, 1)", x.state(1, 0, 1), 7 - place);
            Held.due("a step by a path at 0 and 7", x.judged(0), place == 0 || place == 7 ? NONE : 0);
        }
    }

    private static void heavy() {
        Held.holds(7, "HEAVY of goats (0 to 9 each; 5 at first)");
        for (int goat = 0; goat < 2; goat++) {
            int what = goat;
            TwoGoats x = new TwoGoats();
            Held.at("set(" + goat + ", ..)", v -> x.set(what, v), Held.LEAST, BAD, -1, BAD, 10, BAD, 18, BAD,
                Held.GREATEST, BAD, 0, 5, 1, 0, 8, 1, 9, 8, 10, BAD, 0, 9);
            Held.due("the other one", x.set(1 - goat, 0), 5);
            Held.due("the reach", x.set(2, 1), 9);
        }
    }

    private static void reach() {
        Held.holds(7, "REACH: how many YARDS the ROPE has (1 to 18; 9 at first)");
        TwoGoats x = new TwoGoats();
        Held.at("set(2, ..)", v -> x.set(2, v), Held.LEAST, BAD, -1, BAD, 0, BAD, 19, BAD, Held.GREATEST, BAD, 1, 9,
            2, 1, 17, 2, 18, 17, 19, BAD, 1, 18, 0, BAD, 9, 1);
        Held.at("set(.., 5)", goat -> x.set(goat, 5), 0, 5, 1, 5);

        Held.holds(7, "HEAVY of a goat (what = 0, 1), REACH (2): what it was. BAD.");
        Held.at("set(.., 4)", what -> x.set(what, 4), Held.LEAST, BAD, -1, BAD, 0, 5, 1, 5, 2, 9, 3, BAD,
            Held.GREATEST, BAD, 0, 4, 1, 4, 2, 4);
    }

    private static void worth() {
        Held.holds(8, "THISTLES of a PLACE have a WORTH (0 to 99; 0 at first)");
        for (int place = 0; place < 8; place++) {
            int worthy = place;
            TwoGoats x = new TwoGoats();
            Held.at("thistle(" + place + ", ..)", v -> x.thistle(worthy, v), Held.LEAST, BAD, -1, BAD, 100, BAD,
                Held.GREATEST, BAD, 0, 0, 1, 0, 98, 1, 99, 98, 100, BAD);
            Held.due("all thistles", x.count(5), 99);
        }

        Held.holds(8, "WORTH of THISTLES of a PLACE: what it was. BAD.");
        TwoGoats x = new TwoGoats();
        Held.at("thistle(.., 9)", place -> x.thistle(place, 9), Held.LEAST, BAD, -1, BAD, 0, 0, 1, 0, 6, 0, 7, 0,
            8, BAD, Held.GREATEST, BAD, 0, 9, 7, 9);
        Held.due("all thistles", x.count(5), 36);
    }

    /** A day that is read from one item. */
    private static TwoGoats readOne(String meadow, int form, int item) {
        TwoGoats x = Held.with(meadow, "bb");
        Held.layAll(x, 2, form, item);
        x.read(2, 0);
        return x;
    }

    private static void readItems() {
        Held.holds(9, "0 to 7 the first goat by a PATH, there or not, 8 to 15 the second one by it, less 8");
        String fan = "011;021;031;041;051;061;071;012";
        for (int item = -3; item <= 18; item++) {
            TwoGoats x = readOne(fan, 2, item);
            boolean isStep = item >= 0 && item <= 15;
            Held.due("bytes of item " + item, x.count(2), isStep ? 1 : 0);
            Held.due("judged, of item " + item, x.judged(0), NONE);
            if (isStep) {
                int goes = item < 8 ? 0 : 1;
                int place = item % 8 == 7 ? 1 : item % 8 + 1;
                Held.due("the goat of item " + item, x.state(0, 1, goes), place);
                Held.due("the other goat of item " + item, x.state(0, 1, 1 - goes), 0);
                Held.due("the path of item " + item, x.rope(0, 1, 0), item % 8);
            }
        }
        for (int item : new int[] {1, 7, 9, 15}) {
            TwoGoats x = readOne("011", 0, item);
            Held.due("a path that is not there, item " + item, x.count(2), 1);
            Held.due("judged, of item " + item, x.judged(0), 0);
        }
        for (int item : new int[] {0, 8}) {
            Held.due("a path that is there, item " + item, readOne("011", 0, item).judged(0), NONE);
        }
        Held.due("a meadow that is empty", readOne("", 1, 15).count(2), 1);

        Held.holds(9, "A DAY is that of a SHEET");
        Held.due("item -1 of bytes", readOne("011", 0, -1).count(2), 0);
        Held.due("item 255 of bytes is -1", readOne("011", 0, 255).count(2), 0);
        Held.due("item 256 of bytes is 0", readOne("011", 0, 256).count(2), 1);
        Held.due("item 256 of shorts is none", readOne("011", 1, 256).count(2), 0);
        Held.due("item 65536 of shorts is 0", readOne("011", 1, 65536).count(2), 1);
        Held.due("item 65536 of ints is none", readOne("011", 2, 65536).count(2), 0);
        TwoGoats x = Held.with("011;121", "a");
        Held.typeAll(x, 2, "aA");
        x.start(1, 1);
        Held.layAll(x, 3, 1, 0, 8, 9);
        Held.due("read", x.read(3, 1), 3);
        Held.at("count", c -> x.count(c), 2, 1, 3, 3);
        Held.due("the start stays", x.start(1, 0), 1);
        Held.due("the steps are those of the sheet", x.state(1, 3, 1), 2);
    }

    private static void readAsLongAs() {
        Held.holds(9, "as long as each is such a one");
        for (int wrong : new int[] {-1, 16, Held.LEAST, Held.GREATEST}) {
            for (int at = 0; at < 4; at++) {
                int[] items = {0, 8, 0, 8};
                items[at] = wrong;
                TwoGoats x = Held.with("011", "hhh");
                Held.layAll(x, 0, 2, items);
                Held.due("read up to item " + at + ", " + wrong, x.read(0, 0), at);
                Held.due("bytes", x.count(2), at);
                Held.due("steps", x.count(6), at);
            }
        }
    }

    private static void readAtMost40() {
        Held.holds(9, "40 at most: how many.");
        for (int n : new int[] {0, 1, 39, 40, 41, 59, 60}) {
            TwoGoats x = Held.with("011", "hhh");
            x.sheet(0, 0, n);
            Held.due("read of " + n + " items", x.read(0, 0), Math.min(n, 40));
            Held.due("bytes", x.count(2), Math.min(n, 40));
            Held.due("steps", x.count(6), Math.min(n, 40));
        }
        TwoGoats x = Held.with("011", "");
        x.sheet(0, 0, 41);
        x.lay(0, 0, 40, 16);
        Held.due("item 40 is not looked at", x.read(0, 0), 40);
        x.lay(0, 0, 39, 16);
        Held.due("item 39 is", x.read(0, 0), 39);
        Held.due("byte 40", x.type(1, 'a'), 40);
        Held.due("byte 41", x.type(1, 'a'), FULL);
    }

    private static void readALostSheet() {
        Held.holds(9, "BAD; NULL.");
        TwoGoats x = Held.with("011", "aa");
        x.sheet(0, 0, 0);
        x.sheet(3, 0, 0);
        Held.at("read(.., 1)", s -> x.read(s, 1), Held.LEAST, BAD, -1, BAD, 0, 0, 1, Held.NULL, 2, Held.NULL, 3, 0,
            4, BAD, Held.GREATEST, BAD);
        Held.at("read(1, ..)", day -> x.read(1, day), Held.LEAST, BAD, -1, BAD, 0, Held.NULL, 1, Held.NULL, 2, BAD,
            Held.GREATEST, BAD);
        Held.due("a day stays where the sheet is lost", x.count(2), 2);
        Held.due("no items: the day is empty", x.read(0, 0), 0);
        Held.due("no items: the day is empty", x.count(2), 0);
    }

    private static void undone() {
        Held.holds(10, "The last byte of a DAY is undone: how many are left.");
        TwoGoats x = Held.with("011", "a".repeat(40));
        for (int left = 39; left >= 0; left--) {
            Held.due("undo of " + (left + 1), x.undo(0), left);
            Held.due("bytes", x.count(2), left);
            Held.due("steps", x.count(6), left);
        }

        Held.holds(10, "BAD; NOT: it is empty.");
        Held.due("undo of 0", x.undo(0), NOT);
        Held.typeAll(x, 2, "xy");
        Held.at("undo", x::undo, Held.LEAST, BAD, -1, BAD, 0, NOT, 1, 1, 2, BAD, Held.GREATEST, BAD);
        Held.due("a byte that is no step is undone", x.undo(1), 0);
        Held.due("undo of 0", x.undo(1), NOT);
        x.type(1, 'a');
        Held.due("undo of 1", x.undo(0), 0);
    }
}
