/** Promises 11 to 14 at the boundaries that the document names: what a day's steps come to. */
public final class WhatBecomesBoundsTest {
    private static final int NONE = Held.NONE, BAD = Held.BAD;
    private static final String LONG_CHAIN = "012;123;234;345";

    public static void main(String[] args) {
        letters();
        pathsThatAreThere();
        atThePlaceOfTheGoat();
        noMoreThanReach();
        theHeavierOneTruly();
        theDayEndsThere();
        daysAsNumbers();
        stepsAsManyAsAreDone();
        whatIsTold();
        lengthOfAll();
        takenUpElseLaid();
        dragged();
        draggedAllTheWay();
        eaten();
        eatenOnceADay();
        notEatenByTheDragged();
        ropeFromTheFirstGoatOn();
        needs();
        needsIsTheLeastReach();
        Held.end(11, 14);
    }

    private static int judgedOf(String meadow, String day) {
        return Held.with(meadow, day).judged(0);
    }

    private static void letters() {
        Held.holds(11, "steps: a letter a to h: the first goat (0) goes by that PATH, A to H: the second one (1)");
        for (int b = 0; b < 256; b++) {
            boolean isSmall = b >= 'a' && b <= 'h';
            boolean isGreat = b >= 'A' && b <= 'H';
            TwoGoats x = new TwoGoats();
            Held.typeAll(x, 0, "011;021;031;041;051;061;071;012");
            x.type(1, b);
            Held.due("judged of byte " + b, x.judged(0), isSmall || isGreat ? NONE : 0);
            if (isSmall || isGreat) {
                Held.due("the path of byte " + b, x.rope(0, 1, 0), isSmall ? b - 'a' : b - 'A');
                Held.due("the first goat, by byte " + b, x.state(0, 1, 0) == 0 ? 0 : 1, isSmall ? 1 : 0);
                Held.due("the second goat, by byte " + b, x.state(0, 1, 1) == 0 ? 0 : 1, isGreat ? 1 : 0);
            }
        }
    }

    private static void pathsThatAreThere() {
        Held.holds(11, "A STEP by a PATH that is there");
        String meadow = "";
        for (int paths = 0; paths <= 8; paths++) {
            for (int path = 0; path < 8; path++) {
                int want = path < paths ? NONE : 0;
                Held.due("path " + path + " of " + paths, judgedOf(meadow, "" + (char) ('a' + path)), want);
                Held.due("path " + path + " of " + paths, judgedOf(meadow, "" + (char) ('A' + path)), want);
            }
            meadow += (paths == 0 ? "" : ";") + "011";
        }
    }

    private static void atThePlaceOfTheGoat() {
        Held.holds(11, "and at the PLACE of the goat, is BORNE");
        Held.due("the first goat from the place told first", judgedOf("011;121", "a"), NONE);
        Held.due("the first goat from the place told second", judgedOf("101;121", "a"), NONE);
        Held.due("the first goat from neither", judgedOf("011;121", "b"), 0);
        Held.due("the second goat from neither", judgedOf("011;121", "B"), 0);
        Held.due("the second goat stays where the first one goes", judgedOf("011;121", "aB"), 1);
        Held.due("the first goat stays where the second one goes", judgedOf("011;121", "Ab"), 1);
        Held.due("the first goat went there", judgedOf("011;121", "ab"), NONE);
        Held.due("the second goat went there", judgedOf("011;121", "AB"), NONE);
    }

    private static void noMoreThanReach() {
        Held.holds(11, "is BORNE, if behind it the LENGTH is no more than REACH");
        for (String day : new String[] {"ab", "AB", "bA", "aC"}) {
            String meadow = day.equals("bA") ? "015;024" : "015;124;024";
            TwoGoats x = Held.with(meadow, day);
            int first = day.equals("bA") ? 4 : 5;
            for (int reach = 1; reach <= 18; reach++) {
                x.set(2, reach);
                int want = reach >= 9 ? NONE : reach >= first ? 1 : 0;
                Held.due("judged of " + day + " at reach " + reach, x.judged(0), want);
                Held.due("steps of " + day + " at reach " + reach, x.count(6), want == NONE ? 2 : want);
            }
        }
        TwoGoats x = Held.with("019;129;231", "abc");
        x.set(2, 18);
        Held.due("18 yards at reach 18, and 19", x.judged(0), 2);
        Held.due("length at reach 18", x.state(0, 2, 3), 18);
        TwoGoats y = Held.with("011;011", "ab".repeat(20));
        y.set(2, 18);
        Held.due("18 windings at reach 18, and 19", y.judged(0), 18);
        Held.due("paths at reach 18", y.state(0, 18, 2), 18);
        Held.due("what is taken up at reach 18 is borne", judgedOf("019;109", "aaabAB"), 3);
        Held.due("at reach 9 the rope may be taken up", judgedOf("019;109", "aAAabB"), NONE);
    }

    private static void theHeavierOneTruly() {
        Held.holds(11, "If it were more, and this goat is the HEAVIER one (truly)");
        for (int one = 0; one <= 9; one++) {
            for (int other = 0; other <= 9; other++) {
                TwoGoats x = Held.with("015", "a");
                x.type(2, 'A');
                x.set(0, one);
                x.set(1, other);
                x.set(2, 4);
                Held.due("a, heavy " + one + " and " + other, x.judged(0), one > other ? NONE : 0);
                Held.due("A, heavy " + one + " and " + other, x.judged(1), other > one ? NONE : 0);
                x.set(2, 5);
                Held.due("a, not more", x.state(0, 1, 3), 5);
                Held.due("A, not more", x.state(1, 1, 3), 5);
                Held.due("nobody is dragged", x.state(0, 1, 7) + x.state(1, 1, 6), 0);
            }
        }
    }

    private static void theDayEndsThere() {
        Held.holds(11, "Other steps are not done, and the DAY ends there: JUDGED: the first byte that is no such step");
        for (char other : new char[] {'x', 'b', 'H', 0, 255}) {
            for (int at : new int[] {0, 1, 20, 38, 39}) {
                String day = "a".repeat(at) + other + "a".repeat(39 - at);
                TwoGoats x = Held.with("011", day);
                x.thistle(1, 7);
                Held.due("judged, byte " + (int) other + " at " + at, x.judged(0), at);
                Held.due("steps", x.count(6), at);
                Held.due("the place", x.state(0, at, 0), at % 2);
                Held.due("eaten", x.state(0, at, 4), at == 0 ? 0 : 7);
                Held.due("no step behind it", x.state(0, at + 1, 0), BAD);
            }
        }

        Held.holds(11, "JUDGED; NONE. BAD.");
        Held.due("judged of no bytes", new TwoGoats().judged(0), NONE);
        TwoGoats x = Held.with("011", "a".repeat(40));
        Held.due("judged of 40 steps", x.judged(0), NONE);
        Held.due("40 steps", x.count(6), 40);
        Held.due("behind 40 steps", x.state(0, 40, 0), 0);
        Held.due("behind 41 steps", x.state(0, 41, 0), BAD);
    }

    private static void daysAsNumbers() {
        Held.holds(11, "JUDGED; NONE. BAD.");
        TwoGoats x = Held.with("011", "b");
        Held.at("judged", x::judged, Held.LEAST, BAD, -1, BAD, 0, 0, 1, NONE, 2, BAD, Held.GREATEST, BAD);
        Held.holds(12, "how often the first was DRAGGED (6), the second (7). BAD.");
        Held.at("state(.., 0, 0)", d -> x.state(d, 0, 0), Held.LEAST, BAD, -1, BAD, 0, 0, 1, 0, 2, BAD,
            Held.GREATEST, BAD);
        Held.holds(13, "The i-th PATH of the ROPE behind k steps; NONE beyond. BAD (i from 0 on).");
        Held.at("rope(.., 0, 0)", d -> x.rope(d, 0, 0), Held.LEAST, BAD, -1, BAD, 0, NONE, 1, NONE, 2, BAD,
            Held.GREATEST, BAD);
        Held.holds(14, "NEEDS. BAD.");
        Held.at("needs", x::needs, Held.LEAST, BAD, -1, BAD, 0, 0, 1, 0, 2, BAD, Held.GREATEST, BAD);
    }

    private static void stepsAsManyAsAreDone() {
        Held.holds(12, "behind k steps of a DAY (0 to as many as are done)");
        TwoGoats x = Held.with("012;123", "abx");
        Held.at("state(0, .., 0)", k -> x.state(0, k, 0), Held.LEAST, BAD, -1, BAD, 0, 0, 1, 1, 2, 2, 3, BAD, 4, BAD,
            Held.GREATEST, BAD);
        Held.at("rope(0, .., 0)", k -> x.rope(0, k, 0), Held.LEAST, BAD, -1, BAD, 0, NONE, 1, 0, 2, 1, 3, BAD, 4, BAD,
            Held.GREATEST, BAD);
        Held.at("state(1, .., 0)", k -> x.state(1, k, 0), -1, BAD, 0, 0, 1, BAD);
        x.set(2, 4);
        Held.at("state(0, .., 0) at reach 4", k -> x.state(0, k, 0), -1, BAD, 0, 0, 1, 1, 2, BAD);
        x.set(2, 5);
        Held.at("state(0, .., 0) at reach 5", k -> x.state(0, k, 0), 0, 0, 1, 1, 2, 2, 3, BAD);
    }

    private static void whatIsTold() {
        Held.holds(12, "the PLACE of the first goat (what = 0), of the second (1), PATHS of the ROPE (2), LENGTH (3), "
            + "what the first has eaten (4), the second (5)");
        TwoGoats x = Held.with("012;033;124", "aBc");
        x.thistle(1, 10);
        x.thistle(2, 20);
        x.thistle(3, 40);
        Held.at("state(0, 0, ..)", w -> x.state(0, 0, w), Held.LEAST, BAD, -1, BAD, 0, 0, 1, 0, 2, 0, 3, 0, 4, 0, 5, 0,
            6, 0, 7, 0, 8, BAD, Held.GREATEST, BAD);
        Held.at("state(0, 1, ..)", w -> x.state(0, 1, w), 0, 1, 1, 0, 2, 1, 3, 2, 4, 10, 5, 0, 6, 0, 7, 0, 8, BAD);
        Held.at("state(0, 2, ..)", w -> x.state(0, 2, w), 0, 1, 1, 3, 2, 2, 3, 5, 4, 10, 5, 40, 6, 0, 7, 0, 8, BAD);
        Held.at("state(0, 3, ..)", w -> x.state(0, 3, w), -1, BAD, 0, 2, 1, 3, 2, 3, 3, 9, 4, 30, 5, 40, 6, 0, 7, 0,
            8, BAD);
    }

    private static void lengthOfAll() {
        Held.holds(12, "LENGTH: YARDS of all of these.");
        TwoGoats x = Held.with("011;129;238;234", "abcBd");
        x.set(2, 18);
        Held.at("state(0, .., 3)", k -> x.state(0, k, 3), 0, 0, 1, 1, 2, 10, 3, 18, 4, BAD);
        Held.retype(x, 1, "abdAdaB");
        Held.at("state(0, .., 3)", k -> x.state(0, k, 3), 0, 0, 1, 1, 2, 10, 3, 14, 4, 13, 5, 9, 6, BAD);
        Held.retype(x, 1, "cab");
        x.start(0, 2);
        Held.at("state(0, .., 3)", k -> x.state(0, k, 3), 0, 0, 1, 8, 2, BAD);
    }

    private static void takenUpElseLaid() {
        Held.holds(12, "a goat that goes by the PATH which is the one next to it takes that up; else that PATH comes "
            + "to its end");
        TwoGoats x = Held.with("012;013;124", "aa");
        Held.at("back by the same: state(0, 2, ..)", w -> x.state(0, 2, w), 0, 0, 1, 0, 2, 0, 3, 0);
        Held.retype(x, 1, "aA");
        Held.at("behind the other: state(0, 2, ..)", w -> x.state(0, 2, w), 0, 1, 1, 1, 2, 0, 3, 0);
        Held.retype(x, 1, "ab");
        Held.at("back by another: state(0, 2, ..)", w -> x.state(0, 2, w), 0, 0, 1, 0, 2, 2, 3, 5);
        Held.retype(x, 1, "aB");
        Held.at("behind the other by another: state(0, 2, ..)", w -> x.state(0, 2, w), 0, 1, 1, 1, 2, 2, 3, 5);
        Held.retype(x, 1, "abA");
        Held.at("the second's next one: state(0, 3, ..)", w -> x.state(0, 3, w), 0, 0, 1, 1, 2, 1, 3, 3);
        Held.retype(x, 1, "abB");
        Held.at("not the second's next one: state(0, 3, ..)", w -> x.state(0, 3, w), 0, 0, 1, 1, 2, 3, 3, 8);

        Held.holds(12, "in which no PATH comes twice one behind the other");
        Held.retype(x, 1, "abBAab");
        String[] ropes = {"-", "-0", "-10", "-101", "-1010", "-01010", "-101010"};
        x.set(2, 18);
        for (int k = 0; k < ropes.length; k++) {
            Held.dueRope(x, 0, k, ropes[k]);
        }
        Held.retype(x, 1, "abABba");
        String[] taken = {"-", "-0", "-10", "-1", "-", "-1", "-01"};
        for (int k = 0; k < taken.length; k++) {
            Held.dueRope(x, 0, k, taken[k]);
        }
    }

    /** Both dragged by the first goat in day 0 and, told the other way, by the second one in day 1. */
    private static void dueDragged(int reach, int[] timesBehindSteps, int length) {
        TwoGoats x = Held.with(LONG_CHAIN, "abcd");
        Held.typeAll(x, 2, "ABCD");
        x.set(2, reach);
        x.set(0, 6);
        int last = timesBehindSteps.length - 1;
        for (int k = 0; k <= last; k++) {
            int times = timesBehindSteps[k];
            Held.due("reach " + reach + ": the second was dragged", x.state(0, k, 7), times);
            Held.due("reach " + reach + ": the first was not", x.state(0, k, 6), 0);
            Held.due("reach " + reach + ": the second is brought to", x.state(0, k, 1), times);
            Held.due("reach " + reach + ": paths", x.state(0, k, 2), k - times);
        }
        Held.due("reach " + reach + ": length", x.state(0, last, 3), length);
        x.set(0, 4);
        for (int k = 0; k <= last; k++) {
            int times = timesBehindSteps[k];
            Held.due("reach " + reach + ": the first was dragged", x.state(1, k, 6), times);
            Held.due("reach " + reach + ": the second was not", x.state(1, k, 7), 0);
            Held.due("reach " + reach + ": the first is brought to", x.state(1, k, 0), times);
        }
        Held.due("reach " + reach + ": length", x.state(1, last, 3), length);
    }

    private static void dragged() {
        Held.holds(12, "the other one is DRAGGED: it takes up PATHS, one by one, until the LENGTH is no more");
        dueDragged(14, new int[] {0, 0, 0, 0, 0}, 14);
        dueDragged(13, new int[] {0, 0, 0, 0, 1}, 12);
        dueDragged(12, new int[] {0, 0, 0, 0, 1}, 12);
        dueDragged(11, new int[] {0, 0, 0, 0, 2}, 9);
        dueDragged(9, new int[] {0, 0, 0, 0, 2}, 9);
        dueDragged(8, new int[] {0, 0, 0, 1, 3}, 5);
        dueDragged(5, new int[] {0, 0, 0, 2, 3}, 5);
        dueDragged(4, new int[] {0, 0, 1, 2, 4}, 0);
        dueDragged(2, new int[] {0, 0, 2, 3, 4}, 0);
        dueDragged(1, new int[] {0, 1, 2, 3, 4}, 0);

        Held.holds(12, "how often one was DRAGGED (PATHS taken up so)");
        TwoGoats x = Held.with("011;121;231;349", "abcd");
        x.set(0, 6);
        x.set(2, 10);
        Held.due("one step drags by two paths", x.state(0, 4, 7), 2);
        x.set(2, 9);
        Held.due("one step drags by three paths", x.state(0, 4, 7), 3);
        x.set(2, 12);
        Held.due("one step drags by none", x.state(0, 4, 7), 0);
        Held.retype(x, 1, "aA");
        Held.due("by its own step nobody is dragged", x.state(0, 2, 7), 0);
    }

    private static void draggedAllTheWay() {
        Held.holds(12, "until the LENGTH is no more");
        TwoGoats x = Held.with("019", "a");
        x.set(0, 6);
        x.set(2, 8);
        Held.at("9 yards at reach 8: state(0, 1, ..)", w -> x.state(0, 1, w), 0, 1, 1, 1, 2, 0, 3, 0, 6, 0, 7, 1);
        x.set(2, 9);
        Held.at("9 yards at reach 9: state(0, 1, ..)", w -> x.state(0, 1, w), 0, 1, 1, 0, 2, 1, 3, 9, 6, 0, 7, 0);
        Held.retype(x, 1, "aaA");
        x.set(2, 8);
        Held.due("back again it drags once more", x.state(0, 2, 7), 2);
        Held.due("the lighter one's step is not borne", x.judged(0), 2);
    }

    private static void eaten() {
        Held.holds(12, "who comes to a PLACE by a STEP of its own eats all that are there");
        for (int worth : new int[] {0, 1, 98, 99}) {
            TwoGoats x = Held.with("071", "a");
            x.type(2, 'A');
            x.thistle(7, worth);
            Held.due("eaten by the first", x.state(0, 1, 4), worth);
            Held.due("not by the second", x.state(0, 1, 5), 0);
            Held.due("eaten by the second", x.state(1, 1, 5), worth);
            Held.due("not by the first", x.state(1, 1, 4), 0);
            Held.due("behind no steps", x.state(0, 0, 4), 0);
        }

        Held.holds(12, "not at START");
        TwoGoats x = Held.with("011", "aaAA");
        Held.typeAll(x, 2, "AAaa");
        x.thistle(0, 50);
        Held.at("state(0, .., 4)", k -> x.state(0, k, 4), 0, 0, 1, 0, 2, 50, 3, 50, 4, 50);
        Held.at("state(0, .., 5)", k -> x.state(0, k, 5), 0, 0, 1, 0, 2, 0, 3, 0, 4, 0);
        Held.at("state(1, .., 5)", k -> x.state(1, k, 5), 0, 0, 1, 0, 2, 50, 3, 50, 4, 50);
        Held.at("state(1, .., 4)", k -> x.state(1, k, 4), 0, 0, 1, 0, 2, 0, 3, 0, 4, 0);
    }

    private static void eatenOnceADay() {
        Held.holds(12, "once a DAY");
        TwoGoats x = Held.with("011", "aaaA");
        Held.typeAll(x, 2, "Aaaa");
        x.thistle(1, 7);
        Held.at("state(0, .., 4)", k -> x.state(0, k, 4), 0, 0, 1, 7, 2, 7, 3, 7, 4, 7);
        Held.at("state(0, .., 5)", k -> x.state(0, k, 5), 0, 0, 1, 0, 2, 0, 3, 0, 4, 0);
        Held.at("the other day has its own: state(1, .., 5)", k -> x.state(1, k, 5), 0, 0, 1, 7, 2, 7, 3, 7, 4, 7);
        Held.at("the other day has its own: state(1, .., 4)", k -> x.state(1, k, 4), 0, 0, 1, 0, 2, 0, 3, 0, 4, 0);
        Held.due("their worth is told as it is set", x.count(5), 7);
        TwoGoats y = Held.with("071;172;234", "ab");
        for (int place = 0; place < 8; place++) {
            y.thistle(place, 99);
        }
        y.start(0, 7);
        Held.at("each place has its own: state(0, .., 4)", k -> y.state(0, k, 4), 0, 0, 1, 99, 2, BAD);
        Held.retype(y, 1, "aabb");
        Held.at("each place has its own: state(0, .., 4)", k -> y.state(0, k, 4), 1, 99, 2, 198, 3, 297, 4, 297);
    }

    private static void notEatenByTheDragged() {
        Held.holds(12, "nobody who is DRAGGED");
        TwoGoats x = Held.with("011;022", "Abb");
        x.thistle(0, 50);
        x.thistle(1, 7);
        x.set(0, 6);
        x.set(2, 2);
        Held.at("it is dragged to the thistles: state(0, 2, ..)", w -> x.state(0, 2, w), 0, 2, 1, 0, 4, 0, 5, 7, 6, 0,
            7, 1);
        Held.at("they are left: state(0, 3, ..)", w -> x.state(0, 3, w), 0, 0, 1, 0, 4, 50, 5, 7, 6, 0, 7, 1);
        x.set(2, 3);
        Held.at("not dragged at reach 3: state(0, 2, ..)", w -> x.state(0, 2, w), 0, 2, 1, 1, 4, 0, 5, 7, 6, 0, 7, 0);
        TwoGoats y = Held.with("011", "a");
        y.thistle(1, 9);
        y.set(2, 1);
        Held.due("the step that is not more", y.state(0, 1, 4), 9);
        Held.retype(y, 0, "012");
        Held.due("a step that is not borne", y.judged(0), 0);
        y.set(0, 6);
        Held.due("who drags eats", y.state(0, 1, 4), 9);
        Held.due("who is dragged there does not", y.state(0, 1, 5), 0);
    }

    private static void ropeFromTheFirstGoatOn() {
        Held.holds(13, "which PATH is the i-th of the ROPE, from the first goat on");
        TwoGoats x = Held.with("011;021;131;241", "aBcD");
        String[] ropes = {"-", "-0", "-01", "-201", "-2013"};
        for (int k = 0; k < ropes.length; k++) {
            Held.dueRope(x, 0, k, ropes[k]);
        }

        Held.holds(13, "NONE beyond. BAD (i from 0 on).");
        Held.at("rope(0, 4, ..)", i -> x.rope(0, 4, i), Held.LEAST, BAD, -1, BAD, 0, 2, 1, 0, 2, 1, 3, 3, 4, NONE,
            5, NONE, Held.GREATEST, NONE);
        Held.at("rope(0, 1, ..)", i -> x.rope(0, 1, i), -1, BAD, 0, 0, 1, NONE);
        Held.at("rope(0, 0, ..)", i -> x.rope(0, 0, i), -1, BAD, 0, NONE, 1, NONE);
        Held.at("rope(0, 5, ..)", i -> x.rope(0, 5, i), -1, BAD, 0, BAD, 9, BAD);
        TwoGoats y = Held.with("011;011", "ab".repeat(9));
        y.set(2, 18);
        Held.at("rope(0, 18, ..)", i -> y.rope(0, 18, i), 0, 1, 1, 0, 16, 1, 17, 0, 18, NONE, 19, NONE);
    }

    private static int needsOf(String meadow, String day) {
        return Held.with(meadow, day).needs(0);
    }

    private static void needs() {
        Held.holds(14, "0, if there are none");
        Held.due("needs of no steps", needsOf("019", ""), 0);
        Held.due("needs of one step", needsOf("019", "a"), 9);
        Held.due("needs of no meadow", needsOf("", "a"), 0);
        Held.due("needs of no letter", needsOf("019", "xa"), 0);
        Held.due("needs of a path that is not there", needsOf("019", "ba"), 0);
        Held.due("needs of a path at another place", needsOf("019;129", "b"), 0);

        Held.holds(14, "steps behind one that cannot be are left aside");
        Held.due("behind no letter", needsOf("013;124", "axb"), 3);
        Held.due("behind a path that is not there", needsOf("013;124", "acb"), 3);
        Held.due("behind a path at another place", needsOf("013;124", "aBb"), 3);
        Held.due("behind a path of the other goat", needsOf("013;124", "aAb"), 4);
        Held.due("without it", needsOf("013;124", "ab"), 7);
        Held.due("the last step cannot be", needsOf("013;124", "abx"), 7);
    }

    private static void needsIsTheLeastReach() {
        Held.holds(14, "the least REACH by which all steps of a DAY that are there, at their PLACES, are BORNE "
            + "without dragging");
        for (String day : new String[] {"a", "A", "ab", "aC", "abbac", "aA", "aBCA", "abca"}) {
            TwoGoats x = Held.with("013;124;022", day);
            int needs = x.needs(0);
            x.set(2, needs);
            Held.due("at the reach that " + day + " needs", x.judged(0), day.equals("aBCA") ? 1 : NONE);
            x.set(2, needs - 1);
            Held.due("at one less a step of " + day + " is not borne", x.judged(0) >= 0 ? 1 : 0, 1);
            Held.due("needs whatever reach is", x.needs(0), needs);
            x.set(0, 9);
            Held.due("needs whoever is heavier", x.needs(0), needs);
        }
        Held.due("the longest, not the last", needsOf("013;124", "abba"), 7);
        Held.due("wound back at once", needsOf("013;124", "aaaa"), 3);
        Held.due("18", needsOf("019;129", "ab"), 18);
        Held.due("more than any reach", needsOf("019;129;231", "abc"), 19);
        Held.due("39 steps", needsOf("019;019", "ab".repeat(19) + "a"), 351);
        Held.due("40 steps", needsOf("019;019", "ab".repeat(20)), 360);
        Held.due("40 steps of the second", needsOf("019;019", "AB".repeat(20)), 360);
    }
}
