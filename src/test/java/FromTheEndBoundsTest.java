import java.util.ArrayList;
import java.util.HashSet;
import java.util.List;
import java.util.Set;

/** Promises 15 to 20 at the boundaries that the document names: what can be done from where a day ends. */
public final class FromTheEndBoundsTest {
    private static final int NONE = Held.NONE, BAD = Held.BAD, NOT = Held.NOT, FULL = Held.FULL;
    private static final int ANY_BAD = Held.ANY_NUMBER_BAD;
    private static final String CHAIN = "011;121;231";

    public static void main(String[] args) {
        daysAsNumbers();
        soonPlaces();
        soonFewest();
        soonBorneWithoutDragging();
        soonAtMost1000Ways();
        soonAheadOfTheFewest();
        soonAgainAndAgain();
        soonFromTheLongestRope();
        loose();
        pulledNumbers();
        pulledEnds();
        pulledYards();
        pulledUnwinds();
        beganPlaces();
        beganWhateverReachIs();
        beganNone();
        gameNumbers();
        gameStepsInAll();
        gameBorneWithoutDragging();
        gameThistlesAsTheyAreLeft();
        gameOfAnyWorth();
        gameOfLikeOnes();
        alike();
        Held.end(15, 20);
    }

    private static void daysAsNumbers() {
        TwoGoats x = Held.with("011", "a");
        Held.holds(15, "SOON; NONE. BAD; FULL.");
        Held.at("soon(.., 0, 0)", d -> x.soon(d, 0, 0), Held.LEAST, BAD, -1, BAD, 0, 1, 1, 0, 2, BAD,
            Held.GREATEST, BAD);
        Held.holds(16, "LOOSE. BAD.");
        Held.at("loose", x::loose, Held.LEAST, BAD, -1, BAD, 0, 1, 1, 0, 2, BAD, Held.GREATEST, BAD);
        Held.holds(18, "BEGAN; NONE. BAD.");
        Held.at("began(.., 0)", d -> x.began(d, 0), Held.LEAST, BAD, -1, BAD, 0, 1, 1, 0, 2, BAD, Held.GREATEST, BAD);
        Held.holds(19, "as any number. BAD: -10002.");
        Held.at("game(.., 1, 0)", d -> x.game(d, 1, 0), Held.LEAST, ANY_BAD, -1, ANY_BAD, 0, 0, 1, 0, 2, ANY_BAD,
            Held.GREATEST, ANY_BAD);
    }

    // ---- soon

    private static void soonPlaces() {
        Held.holds(15, "SOON; NONE. BAD; FULL.");
        TwoGoats x = Held.with("071;761", "");
        Held.at("soon(0, .., 0)", p -> x.soon(0, p, 0), Held.LEAST, BAD, -1, BAD, 0, 0, 1, NONE, 6, 2, 7, 1, 8, BAD,
            Held.GREATEST, BAD);
        Held.at("soon(0, 0, ..)", p -> x.soon(0, 0, p), Held.LEAST, BAD, -1, BAD, 0, 0, 1, NONE, 6, 2, 7, 1, 8, BAD,
            Held.GREATEST, BAD);
    }

    private static void soonFewest() {
        Held.holds(15, "the fewest by which the first goat is in one told PLACE, the second one in another one "
            + "(perhaps the same)");
        TwoGoats x = Held.with(CHAIN, "");
        x.set(2, 18);
        int[][] want = {{0, 1, 2, 3}, {1, 2, 3, 4}, {2, 3, 4, 5}, {3, 4, 5, 6}};
        for (int first = 0; first < 4; first++) {
            for (int second = 0; second < 4; second++) {
                Held.due("soon(0, " + first + ", " + second + ")", x.soon(0, first, second), want[first][second]);
            }
        }
        Held.typeAll(x, 1, "abC");
        Held.due("from where a day ends, which is not there: none is done behind it", x.judged(0), 2);
        Held.due("there already", x.soon(0, 2, 0), 0);
        Held.due("one step", x.soon(0, 3, 0), 1);
        Held.due("the first is in the first place told", x.soon(0, 0, 2), 4);
    }

    private static void soonBorneWithoutDragging() {
        Held.holds(15, "From where a DAY ends, steps that are BORNE, without dragging, by either goat");
        TwoGoats x = Held.with("019;121", "");
        x.set(0, 9);
        x.set(1, 0);
        x.set(2, 9);
        Held.due("9 yards at reach 9", x.soon(0, 1, 0), 1);
        Held.due("both by 9 yards at reach 9", x.soon(0, 1, 1), 2);
        Held.due("10 yards at reach 9", x.soon(0, 2, 0), NONE);
        Held.due("both by 10 yards at reach 9", x.soon(0, 2, 2), 4);
        x.set(2, 10);
        Held.due("10 yards at reach 10", x.soon(0, 2, 0), 2);
        x.set(2, 8);
        Held.due("9 yards at reach 8", x.soon(0, 1, 0), NONE);
        Held.due("9 yards at reach 8", x.soon(0, 1, 1), NONE);
        Held.due("there already at reach 8", x.soon(0, 0, 0), 0);
    }

    /**
     * How many ways there are to stand and to lie to which goats who begin at place 0 can come by 0, 1, 2, .. steps
     * or fewer; told as texts, apart from the class that is tested.
     */
    private static List<Integer> waysBySteps(String meadow, int reach) {
        String[] paths = meadow.split(";");
        Set<String> known = new HashSet<>(Set.of("00"));
        List<String> ring = List.of("00");
        List<Integer> ways = new ArrayList<>();
        while (!ring.isEmpty() && known.size() < 3000) {
            ways.add(known.size());
            List<String> next = new ArrayList<>();
            for (String way : ring) {
                for (int step = 0; step < 2 * paths.length; step++) {
                    String to = stepped(way, step % 2, step / 2, paths);
                    if (to != null && yards(to, paths) <= reach && known.add(to)) {
                        next.add(to);
                    }
                }
            }
            ring = next;
        }
        return ways;
    }

    private static String stepped(String way, int goat, int path, String[] paths) {
        int ends = paths[path].indexOf(way.charAt(goat));
        if (ends != 0 && ends != 1) {
            return null;
        }
        char to = paths[path].charAt(1 - ends);
        String rope = way.substring(2);
        String longer = (goat == 0 ? path + rope : rope + path).replace("" + path + path, "");
        return goat == 0 ? "" + to + way.charAt(1) + longer : "" + way.charAt(0) + to + longer;
    }

    private static int yards(String way, String[] paths) {
        int sum = 0;
        for (char path : way.substring(2).toCharArray()) {
            sum += paths[path - '0'].charAt(2) - '0';
        }
        return sum;
    }

    /** By so many steps or fewer they come to so many ways; then what soon answers for two places. */
    private static void dueSoon(String meadow, int reach, int[] stepsAndWays, int[] placesAndAnswers) {
        List<Integer> ways = waysBySteps(meadow, reach);
        int steps = stepsAndWays[0];
        Held.due("ways of " + meadow + " by " + steps, steps < ways.size() ? ways.get(steps) : -1, stepsAndWays[1]);
        TwoGoats x = Held.with(meadow, "");
        x.set(2, reach);
        for (int i = 0; i < placesAndAnswers.length; i += 3) {
            int first = placesAndAnswers[i];
            int second = placesAndAnswers[i + 1];
            Held.due("soon(0, " + first + ", " + second + ") of " + meadow + " at reach " + reach,
                x.soon(0, first, second), placesAndAnswers[i + 2]);
        }
    }

    private static void soonAtMost1000Ways() {
        Held.holds(15, "of ways to stand and to lie (the PLACES of both, the ROPE) there are more than 1000");
        dueSoon("022;412;024;402;032;041;023;304", 11, new int[] {7, 999}, new int[] {7, 7, NONE, 0, 4, 1});
        dueSoon("011;012;012;013", 10, new int[] {7, 1000}, new int[] {7, 7, NONE, 1, 1, 2});
        dueSoon("102;232;022;201;311;032;011;212", 7, new int[] {6, 1000}, new int[] {7, 7, NONE, 2, 2, 2});
        dueSoon("013;013;014;102;211", 14, new int[] {6, 1001}, new int[] {7, 7, FULL, 2, 2, 4});
        dueSoon("051;051;021;201;241;511", 7, new int[] {7, 1001}, new int[] {7, 7, FULL, 4, 4, 4});
        dueSoon("233;201;021;322;012;211;231", 7, new int[] {7, 1002}, new int[] {7, 7, FULL, 3, 3, 4});
        dueSoon(Held.EIGHT, 3, new int[] {3, 914}, new int[] {7, 7, NONE, 1, 1, 2});
        dueSoon(Held.EIGHT, 4, new int[] {3, 914}, new int[] {7, 7, FULL, 1, 1, 2});
    }

    private static void soonAheadOfTheFewest() {
        Held.holds(15, "to which they can come by so many steps or fewer, and none of these is such a one (for some "
            + "number of steps, ahead of the fewest)");
        dueSoon("231;321;501;411;431;351;022;531", 12, new int[] {6, 999}, new int[] {1, 3, 6, 1, 4, 7});
        dueSoon("101;321;031;211;241;121;031;321", 9, new int[] {5, 1000}, new int[] {4, 2, 5, 4, 4, 6});
        dueSoon("322;041;012;312;132;341;431;101", 12, new int[] {5, 1000}, new int[] {3, 2, 5, 2, 2, 6});
        dueSoon("531;301;144;501;534;343;213;454", 16, new int[] {6, 1001},
            new int[] {2, 4, 6, 4, 2, 6, 1, 2, FULL, 2, 1, FULL});
        dueSoon("042;124;041;404;314;241", 15, new int[] {7, 1002}, new int[] {1, 3, 7, 3, 1, 7, 3, 3, FULL});
        dueSoon("011;".repeat(6) + "121;231", 18, new int[] {4, 2353}, new int[] {3, 1, 4, 2, 2, 4, 3, 2, FULL});
    }

    private static void soonAgainAndAgain() {
        Held.holds(15, "(for some number of steps, ahead of the fewest)");
        String[] meadows = {
            "022;412;024;402;032;041;023;304", "102;232;022;201;311;032;011;212", "013;013;014;102;211",
            "051;051;021;201;241;511", "233;201;021;322;012;211;231", "011;012;012;013",
        };
        int[] reaches = {11, 7, 14, 7, 7, 10};
        int[] answers = {NONE, NONE, FULL, FULL, FULL, NONE};
        TwoGoats x = new TwoGoats();
        for (int n = 0; n < 2 * meadows.length; n++) {
            int i = n % meadows.length;
            Held.retype(x, 0, meadows[i]);
            x.set(2, reaches[i]);
            Held.due("question " + n + " to one object: soon(0, 7, 7) of " + meadows[i], x.soon(0, 7, 7), answers[i]);
        }
    }

    private static void soonFromTheLongestRope() {
        Held.holds(15, "From where a DAY ends, steps that are BORNE, without dragging, by either goat");
        TwoGoats x = Held.with("011;011;021", "ab".repeat(8) + "a");
        x.set(2, 18);
        Held.at("from 17 paths: soon(0, .., 0)", p -> x.soon(0, p, 0), 0, 1, 1, 0, 2, 2);
        x.type(1, 'b');
        Held.at("from 18 paths: soon(0, .., 0)", p -> x.soon(0, p, 0), 0, 0, 1, 1, 2, 3);
        Held.at("from 18 paths: soon(0, 1, ..)", p -> x.soon(0, 1, p), 0, 1, 1, 2, 2, 2);
        x.type(1, 'c');
        Held.due("the rope has no more yards", x.judged(0), 18);
    }

    // ---- loose

    private static void loose() {
        Held.holds(16, "the fewest by which the ROPE lies in no PATH: as many as it lies in");
        TwoGoats x = Held.with("011;011;019", "ab".repeat(9));
        x.set(2, 18);
        for (int left = 18; left > 0; left--) {
            Held.due("loose", x.loose(0), left);
            x.undo(0);
        }
        Held.due("loose: nothing to unwind", x.loose(0), 0);
        Held.typeAll(x, 1, "c");
        Held.due("loose: one path of 9 yards", x.loose(0), 1);
        x.set(2, 8);
        Held.due("loose: the step is not borne", x.loose(0), 0);
        Held.retype(x, 1, "aA");
        Held.due("loose: taken up", x.loose(0), 0);
    }

    // ---- pulled

    private static void pulledNumbers() {
        Held.holds(17, "PULLED: how many PATHS (what = 0), the LENGTH (1). BAD: also one with itself; NOT.");
        TwoGoats x = Held.with("013;102;124", "a");
        Held.at("pulled(.., 0, 1, 1)", d -> x.pulled(d, 0, 1, 1), Held.LEAST, BAD, -1, BAD, 0, 2, 1, 0, 2, BAD,
            Held.GREATEST, BAD);
        Held.at("pulled(0, .., 0, 0)", a -> x.pulled(0, a, 0, 0), Held.LEAST, BAD, -1, BAD, 0, BAD, 1, 1, 2, NOT,
            3, BAD, 7, BAD, 8, BAD, Held.GREATEST, BAD);
        Held.at("pulled(0, 0, .., 0)", b -> x.pulled(0, 0, b, 0), Held.LEAST, BAD, -1, BAD, 0, BAD, 1, 1, 2, NOT,
            3, BAD, 7, BAD, 8, BAD, Held.GREATEST, BAD);
        Held.at("pulled(0, 0, 1, ..)", w -> x.pulled(0, 0, 1, w), Held.LEAST, BAD, -1, BAD, 0, 1, 1, 2, 2, BAD,
            Held.GREATEST, BAD);
        Held.at("not the same ends: pulled(0, 0, 2, ..)", w -> x.pulled(0, 0, 2, w), -1, BAD, 0, NOT, 1, NOT, 2, BAD);
        Held.at("not the same ends: pulled(.., 0, 2, 0)", d -> x.pulled(d, 0, 2, 0), -1, BAD, 0, NOT, 1, NOT, 2, BAD);
        Held.at("one with itself: pulled(0, .., 2, 0)", a -> x.pulled(0, a, 2, 0), 1, NOT, 2, BAD, 3, BAD);
        Held.due("in an empty meadow", new TwoGoats().pulled(0, 0, 1, 0), BAD);
        TwoGoats y = Held.with(Held.EIGHT, "h");
        Held.at("pulled(0, .., 7, 0)", a -> y.pulled(0, a, 7, 0), -1, BAD, 0, 1, 6, 1, 7, BAD, 8, BAD);
        Held.at("pulled(0, 7, .., 0)", b -> y.pulled(0, 7, b, 0), -1, BAD, 0, 1, 6, 1, 7, BAD, 8, BAD);
    }

    private static void pulledEnds() {
        Held.holds(17, "two PATHS with the same ends become one (the stake between them is pulled)");
        TwoGoats x = Held.with("353;532;354;345;563;433", "");
        x.start(0, 3);
        for (int other = 1; other < 6; other++) {
            int want = other <= 2 ? 0 : NOT;
            Held.due("pulled(0, 0, " + other + ", 0)", x.pulled(0, 0, other, 0), want);
            Held.due("pulled(0, " + other + ", 0, 0)", x.pulled(0, other, 0, 0), want);
        }
        Held.due("two others with the same ends", x.pulled(0, 3, 5, 0), 0);
        Held.holds(17, "NOT: they have not the same ends.");
        Held.due("one end alike", x.pulled(0, 2, 4, 0), NOT);
        Held.due("one end alike, the other one", x.pulled(0, 2, 3, 1), NOT);
        Held.due("no end alike", Held.with("011;231", "").pulled(0, 0, 1, 0), NOT);
    }

    private static void pulledYards() {
        Held.holds(17, "each of them is taken for the one with the fewer YARDS (of like ones the lesser number)");
        // Which of like ones it is cannot be told from outside; that both become one can.
        for (String meadow : new String[] {"013;014", "013;013", "014;013"}) {
            TwoGoats x = Held.with(meadow, "a");
            Held.typeAll(x, 2, "b");
            for (int day = 0; day < 2; day++) {
                Held.due("length by " + meadow + ", day " + day, x.pulled(day, 0, 1, 1), 3);
                Held.due("length by " + meadow + ", day " + day, x.pulled(day, 1, 0, 1), 3);
                Held.due("paths by " + meadow + ", day " + day, x.pulled(day, 0, 1, 0), 1);
            }
            Held.retype(x, 1, "ab");
            Held.due("one winding by " + meadow, x.pulled(0, 0, 1, 0), 0);
        }
        TwoGoats x = Held.with("011;129;121;239", "abD");
        x.set(2, 18);
        Held.due("the day ends where D is not", x.judged(0), 2);
        Held.due("1 and 9 yards", x.state(0, 2, 3), 10);
        Held.due("1 and, for 9, 1 yard", x.pulled(0, 1, 2, 1), 2);
        Held.due("both are still there", x.pulled(0, 2, 1, 0), 2);
        Held.due("nothing is changed by the question", x.state(0, 2, 3), 10);
    }

    private static void pulledUnwinds() {
        Held.holds(17, "how many PATHS the ROPE lies in then, the LENGTH");
        TwoGoats x = Held.with("011;012;013;122", "");
        x.set(2, 18);
        Held.due("a rope in no path", x.pulled(0, 0, 1, 0), 0);
        Held.due("a rope in no path: length", x.pulled(0, 0, 1, 1), 0);
        Held.retype(x, 1, "c");
        Held.due("a rope in neither of them", x.pulled(0, 0, 1, 1), 3);
        Held.retype(x, 1, "ab");
        Held.due("one winding", x.pulled(0, 0, 1, 0), 0);
        Held.due("one winding round another stake", x.pulled(0, 1, 2, 0), 2);
        Held.due("one winding round another stake: length", x.pulled(0, 1, 2, 1), 3);
        Held.retype(x, 1, "aba");
        Held.due("one winding and a half", x.pulled(0, 0, 1, 0), 1);
        Held.due("one winding and a half: length", x.pulled(0, 0, 1, 1), 1);
        Held.retype(x, 1, "abab");
        Held.due("two windings", x.pulled(0, 0, 1, 0), 0);
        Held.retype(x, 1, "cabc");
        Held.due("what lies around comes together", x.pulled(0, 0, 1, 0), 0);
        Held.retype(x, 1, "addba");
        Held.due("a way aside and back, then a winding and a half", x.pulled(0, 0, 1, 0), 1);
        Held.retype(x, 1, "cba");
        Held.due("what is unlike stays", x.pulled(0, 0, 1, 0), 1);
        Held.due("what is unlike stays: length", x.pulled(0, 0, 1, 1), 3);
    }

    // ---- began

    private static void beganPlaces() {
        Held.holds(18, "BEGAN; NONE. BAD.");
        TwoGoats x = Held.with("071;761", "");
        Held.at("began(0, ..)", p -> x.began(0, p), Held.LEAST, BAD, -1, BAD, 0, 0, 1, NONE, 6, 4, 7, 2, 8, BAD,
            Held.GREATEST, BAD);

        Held.holds(18, "how many steps at least");
        TwoGoats y = Held.with("011;121;231;041;451;561", "abD");
        y.set(2, 18);
        Held.at("along the rope and aside of it: began(0, ..)", p -> y.began(0, p), 0, 3, 1, 3, 2, 3, 3, 5, 4, 3,
            5, 5, 6, 7, 7, NONE);
        Held.retype(y, 1, "abba");
        Held.at("unwound again: began(0, ..)", p -> y.began(0, p), 0, 0, 1, 2, 2, 4, 3, 6, 4, 2, 5, 4, 6, 6, 7, NONE);
        TwoGoats z = Held.with("011;011", "abab");
        Held.at("wound round a stake: began(0, ..)", p -> z.began(0, p), 0, 4, 1, 4, 2, NONE);
    }

    private static void beganWhateverReachIs() {
        Held.holds(18, "whatever REACH is, by which two who begin in a told PLACE can come to lie as they do");
        TwoGoats x = Held.with("019;129;239", "");
        for (int reach : new int[] {1, 8, 9, 17, 18}) {
            x.set(2, reach);
            Held.at("reach " + reach + ": began(0, ..)", p -> x.began(0, p), 0, 0, 1, 2, 2, 4, 3, 6, 4, NONE);
        }
        TwoGoats y = Held.with("019;121;129", "ab");
        for (int heavy : new int[] {4, 5, 6}) {
            y.set(0, heavy);
            y.set(2, 10);
            Held.due("both paths lie, heavy " + heavy, y.began(0, 0), 2);
            y.set(2, 9);
            Held.due("one path lies, heavy " + heavy, y.began(0, 0), heavy == 6 ? 3 : 1);
        }
    }

    private static void beganNone() {
        Held.holds(18, "can come to lie as they do where a DAY ends: NONE.");
        TwoGoats x = Held.with("011;231", "a");
        Held.at("two meadows in one: began(0, ..)", p -> x.began(0, p), 0, 1, 1, 1, 2, NONE, 3, NONE, 7, NONE);
        x.start(0, 3);
        Held.at("from the other side: began(0, ..)", p -> x.began(0, p), 0, NONE, 1, NONE, 2, 2, 3, 0, 7, NONE);
        x.wipe(0);
        Held.at("in no meadow: began(0, ..)", p -> x.began(0, p), 2, NONE, 3, 0, 4, NONE);
    }

    // ---- game

    private static void gameNumbers() {
        Held.holds(19, "both step in turn, n (1 to 5) steps in all");
        TwoGoats x = Held.with("011", "");
        x.thistle(1, 9);
        Held.at("game(0, .., 0)", n -> x.game(0, n, 0), Held.LEAST, ANY_BAD, -1, ANY_BAD, 0, ANY_BAD, 1, 9, 2, 9, 4, 9,
            5, 9, 6, ANY_BAD, Held.GREATEST, ANY_BAD);
        Held.holds(19, "TURNS: what it is (what = 0), the first step (1; NONE), as any number. BAD: -10002.");
        Held.at("game(0, 1, ..)", w -> x.game(0, 1, w), Held.LEAST, ANY_BAD, -1, ANY_BAD, 0, 9, 1, 0, 2, ANY_BAD,
            Held.GREATEST, ANY_BAD);
        Held.at("game(0, 5, ..)", w -> x.game(0, 5, w), -1, ANY_BAD, 0, 9, 1, 0, 2, ANY_BAD);
        Held.at("game(1, .., 1)", n -> x.game(1, n, 1), 0, ANY_BAD, 1, 0, 5, 0, 6, ANY_BAD);
        Held.at("game(.., 5, 1)", d -> x.game(d, 5, 1), -1, ANY_BAD, 0, 0, 1, 0, 2, ANY_BAD);
    }

    /** What the first goat gains by 1 to 5 steps, and its first step then. */
    private static void dueGames(String of, TwoGoats x, int[] gains, int[] steps) {
        for (int n = 1; n <= 5; n++) {
            Held.due(of + ": game(0, " + n + ", 0)", x.game(0, n, 0), gains[n - 1]);
            Held.due(of + ": game(0, " + n + ", 1)", x.game(0, n, 1), steps[n - 1]);
        }
    }

    private static void gameStepsInAll() {
        Held.holds(19, "n (1 to 5) steps in all, the first goat first");
        TwoGoats far = Held.with(CHAIN, "");
        far.thistle(3, 7);
        dueGames("three steps off", far, new int[] {0, 0, 0, 0, 7}, new int[] {NONE, NONE, NONE, NONE, 0});
        far.thistle(2, 7);
        far.thistle(3, 0);
        dueGames("two steps off", far, new int[] {0, 0, 7, 7, 7}, new int[] {NONE, NONE, 0, 0, 0});
        far.thistle(1, 7);
        far.thistle(2, 0);
        dueGames("one step off", far, new int[] {7, 7, 7, 7, 7}, new int[] {0, 0, 0, 0, 0});

        Held.holds(19, "each wants what it eats less what the other one eats as great as can be at the end");
        TwoGoats near = Held.with("011;121", "A");
        near.start(0, 1);
        near.thistle(0, 9);
        near.thistle(2, 99);
        near.set(2, 1);
        Held.due("the second stands at 0, the first at 1", near.state(0, 1, 1) * 10 + near.state(0, 1, 0), 1);
        dueGames("the second has eaten 9, which is not told", near, new int[] {0, 0, 0, 0, 0},
            new int[] {NONE, NONE, NONE, NONE, NONE});
        near.set(2, 2);
        dueGames("one more yard: from 3 on as well later", near, new int[] {99, 99, 99, 99, 99},
            new int[] {1, 1, NONE, NONE, NONE});
        TwoGoats lost = Held.with(CHAIN, "A");
        lost.thistle(2, 8);
        lost.set(2, 2);
        dueGames("the second is nearer", lost, new int[] {0, -8, -8, -8, -8}, new int[] {NONE, NONE, NONE, NONE, NONE});
    }

    private static void gameBorneWithoutDragging() {
        Held.holds(19, "each by a PATH (BORNE, without dragging), or not at all");
        TwoGoats x = Held.with("013;029", "");
        x.thistle(1, 4);
        x.thistle(2, 50);
        x.set(0, 9);
        x.set(1, 0);
        int[][] reachGainStep = {{1, 0, NONE}, {2, 0, NONE}, {3, 4, 0}, {8, 4, 0}, {9, 50, 1}, {18, 50, 1}};
        for (int[] one : reachGainStep) {
            x.set(2, one[0]);
            Held.due("reach " + one[0] + ": game(0, 1, 0)", x.game(0, 1, 0), one[1]);
            Held.due("reach " + one[0] + ": game(0, 1, 1)", x.game(0, 1, 1), one[2]);
        }
        TwoGoats y = Held.with("019", "A");
        y.thistle(0, 6);
        y.set(1, 9);
        Held.due("one who stays: neither can come to 0 but the second", y.game(0, 1, 0), 0);
        Held.due("the second comes back to it", y.game(0, 2, 0), -6);
        TwoGoats z = Held.with("015;125", "");
        z.thistle(2, 6);
        z.set(2, 9);
        Held.due("10 yards at reach 9, if the second does not come along", z.game(0, 3, 0), 0);
        z.set(2, 10);
        Held.due("10 yards at reach 10", z.game(0, 3, 0), 6);
    }

    private static void gameThistlesAsTheyAreLeft() {
        Held.holds(19, "THISTLES being as they are left");
        TwoGoats x = Held.with("011", "");
        x.thistle(0, 5);
        x.thistle(1, 9);
        dueGames("nothing is eaten yet", x, new int[] {9, 9, 14, 14, 14}, new int[] {0, 0, 0, 0, 0});
        Held.retype(x, 1, "a");
        dueGames("9 are eaten: from 3 on as well later", x, new int[] {5, 5, 5, 5, 5},
            new int[] {0, 0, NONE, NONE, NONE});
        Held.retype(x, 1, "aa");
        dueGames("all are eaten", x, new int[] {0, 0, 0, 0, 0}, new int[] {NONE, NONE, NONE, NONE, NONE});
        Held.due("the other day's thistles are left", x.game(1, 1, 0), 9);
        Held.due("the game changes nothing", x.state(0, 2, 4), 14);
    }

    private static void gameOfAnyWorth() {
        Held.holds(19, "THISTLES of a PLACE have a WORTH (0 to 99; 0 at first)");
        for (int worth : new int[] {0, 1, 2, 98, 99}) {
            TwoGoats x = Held.with("011;121;231", "");
            int step = worth == 0 ? NONE : 0;
            x.thistle(1, worth);
            Held.due("one of worth " + worth + ": game(0, 1, 0)", x.game(0, 1, 0), worth);
            Held.due("one of worth " + worth + ": game(0, 1, 1)", x.game(0, 1, 1), step);
            x.thistle(2, worth);
            x.thistle(3, worth);
            Held.due("three of worth " + worth + ": game(0, 5, 0)", x.game(0, 5, 0), 3 * worth);
            Held.due("three of worth " + worth + ": game(0, 5, 1)", x.game(0, 5, 1), step);
        }
    }

    private static void gameOfLikeOnes() {
        Held.holds(19, "its first step (a PATH; NONE: not at all; of like ones to stay, then the least)");
        TwoGoats x = Held.with("011;021;031;041", "");
        Held.due("all 0: stay", x.game(0, 1, 1), NONE);
        x.thistle(2, 5);
        x.thistle(3, 5);
        Held.due("of like paths the least", x.game(0, 1, 1), 1);
        x.thistle(4, 6);
        Held.due("rather the greatest", x.game(0, 1, 1), 3);
        x.thistle(3, 6);
        Held.due("of like greatest ones the least", x.game(0, 1, 1), 2);
        x.thistle(1, 6);
        Held.due("of like greatest ones the least", x.game(0, 1, 1), 0);
        Held.due("6, then the other 6", x.game(0, 2, 0), 0);
        Held.due("6, then the other 6: first step", x.game(0, 2, 1), 0);
        TwoGoats y = Held.with("011;021", "");
        y.thistle(1, 5);
        y.thistle(2, 5);
        Held.due("two steps: rather one than none", y.game(0, 2, 1), 0);
        y.thistle(2, 6);
        Held.due("two steps: the greater one", y.game(0, 2, 0), 1);
        Held.due("two steps: the greater one", y.game(0, 2, 1), 1);
        TwoGoats z = Held.with(Held.EIGHT, "");
        z.thistle(1, 3);
        Held.due("of eight like paths the least", z.game(0, 1, 1), 0);
        Held.typeAll(z, 1, "h");
        Held.due("nothing left: stay", z.game(0, 5, 1), NONE);
    }

    // ---- alike

    private static void dueAlike(TwoGoats x, String one, String other, int want) {
        Held.retype(x, 1, one);
        Held.retype(x, 2, other);
        Held.due("alike of " + one + " and " + other, x.alike(), want);
        Held.retype(x, 1, other);
        Held.retype(x, 2, one);
        Held.due("alike of " + other + " and " + one, x.alike(), want);
    }

    private static void alike() {
        Held.holds(20, "1 the same PLACES and ROPE, 2 the same PLACES alone, 0 else");
        TwoGoats x = Held.with("011;012;123;023", "");
        x.set(2, 18);
        dueAlike(x, "", "", 1);
        dueAlike(x, "", "aa", 1);
        dueAlike(x, "", "ab", 2);
        dueAlike(x, "", "a", 0);
        dueAlike(x, "a", "a", 1);
        dueAlike(x, "a", "b", 2);
        dueAlike(x, "a", "A", 0);
        dueAlike(x, "a", "d", 0);
        dueAlike(x, "A", "D", 0);
        dueAlike(x, "ab", "ba", 2);
        dueAlike(x, "ab", "BA", 1);
        TwoGoats y = Held.with("011;012;123;023", "");
        y.set(2, 18);
        dueAlike(y, "abd", "abd", 1);
        dueAlike(y, "abd", "bad", 2);
        dueAlike(y, "abd", "d", 2);
        dueAlike(y, "abab", "ab", 2);
        dueAlike(y, "aba", "abb", 2);
        dueAlike(y, "ax", "ac", 0);
        dueAlike(y, "ax", "aax", 0);
        dueAlike(y, "ax", "aaax", 1);

        Held.holds(20, "ALIKE of both DAYS.");
        TwoGoats z = Held.with("011", "");
        z.start(1, 1);
        Held.due("another start", z.alike(), 0);
        z.type(1, 'a');
        Held.due("one place alike, the first's", z.alike(), 0);
        z.type(1, 'A');
        Held.due("both places", z.alike(), 1);
        z.type(1, 'a');
        Held.due("one place alike, the second's", z.alike(), 0);
    }
}
