/** The edges that the document names for promises 25 to 31: each sentence has a method of its own. */
public final class GuessEdgesTest {
    private static final Checks CHECKS = new Checks();
    private static final int LEAST = Integer.MIN_VALUE;
    private static final int MOST = Integer.MAX_VALUE;
    private static final int[] NO_CUPS = {-1, 3, 8, 9, LEAST, MOST};
    /** 0 tips in hours 2, 4, 6 .., 1 in 4, 8 .., 2 never; it may be led as 2, 9, 12. */
    private static final String CHAIN = "cup 2 0 1;cup 2 0 0;cup 2 0 0;pipe 0 1;";
    /** Plugged, 1 and 3 have two drops an hour; with their springs they have three, and lose them. */
    private static final String LEAKY = "cup 1 0 2;cup 4 0 1;cup 1 0 2;cup 4 0 1;pipe 0 1;pipe 2 3;leaks 9*(fill=3);";

    public static void main(String[] args) {
        hearThrows();
        hearRefused();
        hearTaken();
        hearTwice();
        forget();
        ledThrows();
        ledWays();
        ledFirst();
        ledHours();
        ledNone();
        listenThrows();
        listenEnds();
        listenUnlike();
        coldThrows();
        coldEnds();
        coldRests();
        gameThrows();
        gameCouples();
        gameHours();
        gameHalved();
        yearsThrows();
        yearsEnds();
        yearsDraws();
        yearsAsTheModel();
        yearsOfOneAndNine();
        yearsWithoutCups();
        CHECKS.end();
    }

    private static void illegal(String what, Checks.CallOn call) {
        CHECKS.refused(what, -1, Checks.ILLEGAL, Checks::used, call);
    }

    private static void noSuch(String what, Checks.CallOn call) {
        CHECKS.refused(what, -1, Checks.NO_SUCH, Checks::used, call);
    }

    // ---- promise 25 ----

    /** "NoSuchElementException (ahead): no such CUP." */
    private static void hearThrows() {
        for (int cup : NO_CUPS) {
            noSuch("hear " + cup, x -> x.hear(cup, 1, true));
            noSuch("hear " + cup + " in 0", x -> x.hear(cup, 0, false));
            noSuch("hear " + cup + " in 41", x -> x.hear(cup, 41, true));
        }
        CHECKS.refused("hear no cup, where there are 8", -1, Checks.NO_SUCH, () -> eightHeard(CHAIN), x -> x.hear(3, 1, true));
    }

    private static DripCups eightHeard(String text) {
        DripCups x = Checks.cave(text);
        for (int i = 1; i <= 8; i++) {
            x.hear(0, i, i % 2 == 0);
        }
        return x;
    }

    /** "NONE (STATUS 2): there are 8, not 1 to 40." */
    private static void hearRefused() {
        for (int k : new int[] {0, 41, -1, LEAST, MOST}) {
            CHECKS.refused("hear in " + k, 2, -1, Checks::used, x -> x.hear(0, k, true));
            CHECKS.refused("hear in " + k + ", where there are 8", 2, -1, () -> eightHeard(CHAIN), x -> x.hear(0, k, true));
        }
        for (int k : new int[] {1, 8, 40}) {
            CHECKS.refused("a ninth in " + k, 2, -1, () -> eightHeard(CHAIN), x -> x.hear(0, k, false));
        }
    }

    /** "HEARD: how much is", "HEARD (at most 8): that a CUP tipped, or didn't, in the k-th HOUR (1 to 40)" */
    private static void hearTaken() {
        DripCups x = Checks.cave(CHAIN);
        int[] hours = {1, 40, 2, 39, 1, 40, 20, 21};
        for (int i = 0; i < 8; i++) {
            int n = i + 1;
            int k = hours[i];
            CHECKS.due("heard " + n + " in " + k, n, () -> x.hear(n % 3, k, n % 2 == 0));
            CHECKS.due("how much is heard", n, () -> x.count(8));
        }
        CHECKS.due("none refused", 0, () -> x.count(12));
        CHECKS.due("they are no acts", 0, () -> x.count(7));
        x.hours(1);
        x.undo();
        CHECKS.due("neither hours nor undo change it", 8, () -> x.count(8));
        x.forget();
        CHECKS.due("behind forget the first", 1, () -> x.hear(0, 1, true));
    }

    /** The same twice is heard twice, also if the one can't be with the other. */
    private static void hearTwice() {
        DripCups x = Checks.cave(CHAIN);
        CHECKS.due("once", 1, () -> x.hear(0, 2, true));
        CHECKS.due("twice", 2, () -> x.hear(0, 2, true));
        CHECKS.due("it is so", 1, () -> x.led(2));
        CHECKS.due("and not so", 3, () -> x.hear(0, 2, false));
        CHECKS.due("both can't be", 0, () -> x.led(2));
        CHECKS.due("nor by any way", 0, () -> x.led(0));
    }

    // ---- promise 26 ----

    /** "All that is HEARD is forgotten." */
    private static void forget() {
        DripCups empty = new DripCups();
        empty.forget();
        CHECKS.due("of nothing", 0, () -> empty.count(8));
        CHECKS.due("that is no call that is refused", 0, () -> empty.count(12));
        DripCups x = eightHeard("cup 2 1 1;cup 2 0 0;");
        CHECKS.due("it is not so", 0, () -> x.led(2));
        x.forget();
        CHECKS.due("nothing is heard", 0, () -> x.count(8));
        CHECKS.due("so it is so", 1, () -> x.led(2));
        CHECKS.due("no act", 0, () -> x.count(7));
        for (int i = 1; i <= 8; i++) {
            int n = i;
            CHECKS.due("eight again: " + n, n, () -> x.hear(0, 1, true));
        }
        CHECKS.due("they are so", 1, () -> x.led(2));
        CHECKS.due("a ninth", -1, () -> x.hear(0, 1, true));
    }

    // ---- promise 27 ----

    /** "NoSuchElementException: another what." */
    private static void ledThrows() {
        for (int what : new int[] {-1, 3, LEAST, MOST}) {
            noSuch("led " + what, x -> x.led(what));
        }
    }

    /** "(other than it is led now: with two CUPS each one counts, also one of them)": all, if nothing is heard */
    private static void ledWays() {
        String cups = "cup 9 0 0;".repeat(9);
        // into each of greater number: 36; and on the floor, which all are led to: 0
        DripCups floor = Checks.cave(cups);
        CHECKS.due("nine on the floor", 36, () -> floor.led(0));
        DripCups chain = Checks.cave(cups + "pipe 0 1;pipe 1 2;pipe 2 3;pipe 3 4;pipe 4 5;pipe 5 6;pipe 6 7;pipe 7 8;");
        CHECKS.due("a chain: one of them less, the floor more", 36, () -> chain.led(0));
        DripCups turns = Checks.cave(cups + "pipe 0 1 2;pipe 1 2 3;pipe 2 3 4;pipe 3 4 5;pipe 4 5 6;pipe 5 6 7;pipe 6 7 8;");
        CHECKS.due("by turns: each counts, and the floor", 43, () -> turns.led(0));
        DripCups one = Checks.cave("cup 9 0 0;");
        CHECKS.due("one cup can't be led elsewhere", 0, () -> one.led(0));
        CHECKS.due("so there is no first", -1, () -> one.led(1));
        CHECKS.due("without it is so", 1, () -> one.led(2));
        DripCups two = Checks.cave("cup 9 0 0;cup 9 0 0;");
        CHECKS.due("two cups", 1, () -> two.led(0));
        CHECKS.due("0 into 1", 1, () -> two.led(1));
        two.lead(0, 1);
        CHECKS.due("led so: on the floor", 9, () -> two.led(1));
        CHECKS.due("that alone", 1, () -> two.led(0));
    }

    /** "the first (10 by the CUP, and INTO which; 9 for the floor)": the floor comes behind all cups */
    private static void ledFirst() {
        DripCups x = Checks.cave("cup 1 0 1;" + "cup 1 0 0;".repeat(8) + "pipe 0 1;");
        for (int into = 2; into < 9; into++) {
            int to = into;
            x.forget();
            x.hear(to, 1, true);
            CHECKS.due("0 into " + to + ", or 1 into it", 2, () -> x.led(0));
            CHECKS.due("the first is 0 into " + to, to, () -> x.led(1));
            x.hear(1, 1, true);
            CHECKS.due("1 tips too: 1 into " + to, 10 + to, () -> x.led(1));
            CHECKS.due("that alone", 1, () -> x.led(0));
        }
        x.forget();
        x.hear(1, 1, false);
        x.hear(2, 1, false);
        CHECKS.due("neither 1 nor 2: 0 into 3 is first", 3, () -> x.led(1));
        for (int cup = 3; cup < 9; cup++) {
            x.hear(cup, 1, false);
        }
        CHECKS.due("none of the others: the floor", 9, () -> x.led(1));
        CHECKS.due("that alone", 1, () -> x.led(0));
        DripCups last = Checks.cave("cup 1 0 0;".repeat(7) + "cup 1 0 1;cup 1 0 0;pipe 7 8;");
        last.hear(8, 1, false);
        CHECKS.due("7 on the floor", 79, () -> last.led(1));
    }

    /** "all HEARD would be so": in the 1st HOUR and in the 40th, tipped or not */
    private static void ledHours() {
        for (int k : new int[] {1, 2, 39, 40}) {
            DripCups x = Checks.cave("cup 1 0 1;frost not hour=" + (k - 1) + ";");
            for (int other : new int[] {1, 2, 39, 40}) {
                x.forget();
                x.hear(0, other, true);
                CHECKS.due("tips in " + k + ", heard in " + other, k == other ? 1 : 0, () -> x.led(2));
                x.forget();
                x.hear(0, other, false);
                CHECKS.due("tips in " + k + ", not heard in " + other, k == other ? 0 : 1, () -> x.led(2));
            }
        }
        DripCups x = Checks.cave("cup 1 0 1;frost not hour=40;");
        x.hear(0, 40, true);
        CHECKS.due("the 41st is none of them", 0, () -> x.led(2));
        x.hours(1);
        CHECKS.due("from now on: an hour later it is the 40th", 1, () -> x.led(2));
    }

    /** "how many (what 0), the first (1; NONE: none), whether without (2)" */
    private static void ledNone() {
        DripCups x = Checks.cave(CHAIN);
        x.hear(0, 1, true);
        CHECKS.due("how many", 0, () -> x.led(0));
        CHECKS.due("no first", -1, () -> x.led(1));
        CHECKS.due("not without", 0, () -> x.led(2));
        x.forget();
        x.hear(0, 2, true);
        CHECKS.due("by all ways", 3, () -> x.led(0));
        CHECKS.due("the first of all", 2, () -> x.led(1));
        CHECKS.due("and without", 1, () -> x.led(2));
        x.hear(0, 1, true);
        CHECKS.due("none any more", 0, () -> x.led(0));
        CHECKS.due("no first any more", -1, () -> x.led(1));
        CHECKS.due("nor without", 0, () -> x.led(2));
        CHECKS.due("nor any hour", -1, () -> x.listen(0));
        CHECKS.due("nor any unlike", 0, () -> x.listen(1));
    }

    // ---- promise 28 ----

    /** "NoSuchElementException: another what." */
    private static void listenThrows() {
        for (int what : new int[] {-1, 2, LEAST, MOST}) {
            noSuch("listen " + what, x -> x.listen(what));
        }
    }

    /** "the HOUR (1 to 40; of like ones the first) ..; none without any" */
    private static void listenEnds() {
        DripCups one = Checks.cave("cup 1 0 1;");
        CHECKS.due("without any: no hour", -1, () -> one.listen(0));
        CHECKS.due("without any: none", 0, () -> one.listen(1));
        DripCups silent = Checks.cave("cup 9 0 0;cup 9 0 0;");
        CHECKS.due("one way: the first hour", 1, () -> silent.listen(0));
        CHECKS.due("one way: one", 1, () -> silent.listen(1));
        for (int k : new int[] {1, 2, 39, 40}) {
            DripCups x = Checks.cave("cup 1 0 1;cup 1 0 0;cup 1 0 0;frost not hour=" + (k - 1) + ";");
            // 0 into 1, 0 into 2, 1 into 2: the drop tips 0 and 1, or 0 and 2, or 0 alone
            CHECKS.due("the hour " + k, k, () -> x.listen(0));
            CHECKS.due("three unlike ones in " + k, 3, () -> x.listen(1));
        }
        DripCups late = Checks.cave("cup 1 0 1;cup 1 0 0;cup 1 0 0;frost not hour=40;");
        CHECKS.due("the 41st is none of them", 1, () -> late.listen(0));
        CHECKS.due("nothing is unlike", 1, () -> late.listen(1));
        DripCups like = Checks.cave("cup 1 0 1;cup 1 0 0;frost not (hour=6 or hour=9);cup 1 0 0;");
        CHECKS.due("of like ones the first", 7, () -> like.listen(0));
    }

    /** "how many unlike ones": sets of CUPS that tip, up to all nine */
    private static void listenUnlike() {
        DripCups nine = Checks.cave("cup 1 0 1;".repeat(9));
        CHECKS.due("all nine by all ways: one", 1, () -> nine.listen(1));
        CHECKS.due("in the first hour", 1, () -> nine.listen(0));
        // the drop of 0 goes with each other one of eight, or by other ways nowhere
        DripCups each = Checks.cave("cup 1 0 1;" + "cup 1 0 0;".repeat(8));
        CHECKS.due("nine unlike ones", 9, () -> each.listen(1));
        // 8 always tips; 0's drop tips 1 to 7 by their numbers, or none
        DripCups last = Checks.cave("cup 1 0 1;" + "cup 1 0 0;".repeat(7) + "cup 1 0 1;");
        CHECKS.due("with the ninth: eight unlike ones", 8, () -> last.listen(1));
        last.hear(7, 1, false);
        CHECKS.due("7 doesn't: seven", 7, () -> last.listen(1));
        // without 0's drop, 1 to 5 stay at rest; 6, 7 and 8 tip anyway
        DripCups high = Checks.cave("cup 1 0 1;" + "cup 1 0 0;".repeat(5) + "cup 1 0 1;".repeat(3) + "pipe 0 1;");
        CHECKS.due("1, another one of 2 to 5, both, or none", 10, () -> high.listen(1));
    }

    // ---- promise 29 ----

    /** "IllegalArgumentException (behind NoSuchElementException): hours, tenths": not 1 to 5, not 0 to 10 */
    private static void coldThrows() {
        for (int hours : new int[] {0, 6, -1, LEAST, MOST}) {
            illegal("cold hours " + hours, x -> x.cold(0, hours, 5));
            illegal("cold hours " + hours + ", tenths 11", x -> x.cold(0, hours, 11));
            noSuch("cold 3, hours " + hours, x -> x.cold(3, hours, 5));
        }
        for (int tenths : new int[] {-1, 11, LEAST, MOST}) {
            illegal("cold tenths " + tenths, x -> x.cold(0, 1, tenths));
            noSuch("cold 3, tenths " + tenths, x -> x.cold(3, 1, tenths));
        }
        for (int cup : NO_CUPS) {
            noSuch("cold " + cup, x -> x.cold(cup, 1, 5));
        }
    }

    /** "each of so many HOURS (1 to 5) is frozen with so many tenths (0 to 10)", "of 10 to the power of these HOURS" */
    private static void coldEnds() {
        DripCups x = Checks.cave("cup 1 0 1;cup 5 0 1;cup 6 0 1;");
        int power = 1;
        int frozen = 1;
        for (int hours = 1; hours <= 5; hours++) {
            int h = hours;
            power *= 10;
            int sure = power;
            CHECKS.due("never frozen in " + h, sure, () -> x.cold(0, h, 0));
            CHECKS.due("always frozen in " + h, 0, () -> x.cold(0, h, 10));
            for (int tenths = 0; tenths <= 10; tenths++) {
                int t = tenths;
                frozen = 1;
                for (int i = 0; i < h; i++) {
                    frozen *= t;
                }
                int rest = frozen;
                CHECKS.due("one warm hour of " + h + " by " + t, sure - rest, () -> x.cold(0, h, t));
            }
        }
        CHECKS.due("five warm hours of five", 1, () -> x.cold(1, 5, 9));
        CHECKS.due("five warm hours, surely", 100000, () -> x.cold(1, 5, 0));
        CHECKS.due("five warm hours of four", 0, () -> x.cold(1, 4, 0));
        CHECKS.due("six warm hours", 0, () -> x.cold(2, 5, 0));
    }

    /** "all SPRINGS rest in it (FROST isn't asked in any of these)", "how likely a CUP tips in some of them" */
    private static void coldRests() {
        DripCups frost = Checks.cave("cup 1 0 1;frost 1;");
        CHECKS.due("frost isn't asked", 10, () -> frost.cold(0, 1, 0));
        DripCups below = Checks.cave("cup 1 0 1;cup 1 0 0;cup 1 0 1;pipe 0 1;");
        CHECKS.due("the cup below", 91, () -> below.cold(1, 2, 3));
        CHECKS.due("all springs rest at once", 91, () -> below.cold(2, 2, 3));
        below.plug(0, true);
        CHECKS.due("plugged", 0, () -> below.cold(1, 5, 0));
        DripCups leaks = Checks.cave("cup 2 0 1;leaks hour=1;");
        // without its second hour's leak two warm hours would do; so the first and the second, or two of the others
        CHECKS.due("leaks are asked", 0, () -> leaks.cold(0, 1, 0));
        CHECKS.due("the first and the second", 25, () -> leaks.cold(0, 2, 5));
        CHECKS.due("or none of three else", 250, () -> leaks.cold(0, 3, 5));
        DripCups twice = Checks.cave("cup 1 0 1;");
        twice.hours(3);
        CHECKS.due("what has tipped ahead doesn't count", 0, () -> twice.cold(0, 1, 10));
    }

    // ---- promise 30 ----

    /** "NoSuchElementException: also another what. IllegalArgumentException (behind that): both are one." */
    private static void gameThrows() {
        for (int cup : NO_CUPS) {
            noSuch("game " + cup + " 0", x -> x.game(cup, 0, 0));
            noSuch("game 0 " + cup, x -> x.game(0, cup, 1));
            noSuch("game " + cup + " both", x -> x.game(cup, cup, 0));
        }
        for (int what : new int[] {-1, 2, LEAST, MOST}) {
            noSuch("game what " + what, x -> x.game(0, 1, what));
            noSuch("game both are one, what " + what, x -> x.game(1, 1, what));
        }
        for (int cup = 0; cup < 3; cup++) {
            int c = cup;
            illegal("both are " + c, x -> x.game(c, c, 0));
            illegal("both are " + c + ", the first", x -> x.game(c, c, 1));
        }
    }

    private static void couples(String name, String text, int cup, int other, int many, int first) {
        DripCups x = Checks.cave(text);
        CHECKS.due(name + ": how many", many, () -> x.game(cup, other, 0));
        CHECKS.due(name + ": the first", first, () -> x.game(cup, other, 1));
    }

    /** "A couple RESTS, if neither gains more by the other choice: how many; the first (10 by the first one's and ..)" */
    private static void gameCouples() {
        couples("neither plugs", "cup 1 0 1;cup 1 0 1;", 0, 1, 1, 0);
        couples("nothing to gain by plugging", "cup 9 0 0;cup 9 0 0;", 0, 1, 1, 0);
        couples("both plug", LEAKY, 1, 3, 1, 11);
        couples("both plug, the other way round", LEAKY, 3, 1, 1, 11);
        couples("the first one plugs", LEAKY, 1, 0, 1, 10);
        couples("the other one plugs", LEAKY, 0, 1, 1, 1);
        // plugged, each tips twice in 12 hours: 2 by 2 less 1 is as good as 0
        String even = "cup 1 0 2;cup 12 0 1;cup 1 0 2;cup 12 0 1;pipe 0 1;pipe 2 3;leaks 9*(fill=3);";
        couples("all four", even, 1, 3, 4, 0);
        // 2 tips 2 times, plugged 6 times; with 1 plugged 1 time, with both never; 1 tips once, if it isn't plugged
        String none = "cup 1 0 2;cup 12 11 1;cup 4 1 1;pipe 0 2;pipe 1 2;leaks 99*(cup=2 and (fill=3 or tips=0));";
        couples("none rests", none, 2, 1, 0, -1);
        couples("none rests, the other way round", none, 1, 2, 0, -1);
    }

    /** "how often one's CUP tips in 12 HOURS": the 12th counts, the 13th doesn't */
    private static void gameHours() {
        String twice = "cup 1 0 2;cup 12 0 1;cup 1 0 0;pipe 0 1;leaks 9*(fill=3);";
        couples("plugged it tips in hours 6 and 12: as good as not", twice, 1, 2, 2, 0);
        couples("in hours 7 and 13: once is too little", twice + "frost hour=0;", 1, 2, 1, 0);
        DripCups later = Checks.cave(twice + "frost hour=0;");
        later.hours(1);
        CHECKS.due("from now on: again in 6 and 12", 2, () -> later.game(1, 2, 0));
    }

    /** "this by 2, cut down to 0, and loses 1, if one PLUGGED it", "(1, 0; as it is)" */
    private static void gameHalved() {
        // plugged it tips 1, 2, 3, 4 times in 12 hours, else never: 0, 1, 1, 2 less 1
        int[][] rows = {{16, 1, 0}, {12, 2, 0}, {8, 2, 0}, {6, 1, 10}};
        int[] tips = {1, 2, 3, 4};
        for (int i = 0; i < rows.length; i++) {
            int holds = rows[i][0];
            int times = tips[i];
            String text = "cup 1 0 2;cup " + holds + " 0 1;cup 1 0 0;pipe 0 1;leaks 9*(fill=3);";
            couples(times + " times", text, 1, 2, rows[i][1], rows[i][2]);
            DripCups x = Checks.cave(text);
            x.plug(1, true);
            CHECKS.due(times + " times", times, () -> x.then(1, 12, 1));
            CHECKS.due("plugged as it is: no one need plug", 0, () -> x.game(1, 2, 1));
            CHECKS.due("plugged as it is: one couple", 1, () -> x.game(1, 2, 0));
            CHECKS.due("the game plugs nothing", 2, () -> x.count(2));
        }
    }

    // ---- promise 31 ----

    /** "NoSuchElementException: another what. IllegalArgumentException (behind that): n": not 0 to 200 */
    private static void yearsThrows() {
        for (int n : new int[] {-1, 201, LEAST, MOST}) {
            for (int what = 0; what < 3; what++) {
                int w = what;
                illegal("years " + n + " " + w, x -> x.years(1, n, w));
            }
            noSuch("years " + n + " what 3", x -> x.years(1, n, 3));
            noSuch("years " + n + " what -1", x -> x.years(1, n, -1));
        }
        for (int what : new int[] {-1, 3, LEAST, MOST}) {
            noSuch("years what " + what, x -> x.years(1, 1, what));
        }
        DripCups none = new DripCups();
        CHECKS.due("no cups, n 201", Checks.ILLEGAL, () -> none.years(1, 201, 0));
        CHECKS.due("no cups, n -1", Checks.ILLEGAL, () -> none.years(1, -1, 0));
    }

    private static void years(DripCups x, int seed, int n, int tips, int fill, int silent) {
        CHECKS.due("years " + seed + " " + n + ": tips", tips, () -> x.years(seed, n, 0));
        CHECKS.due("years " + seed + " " + n + ": fill", fill, () -> x.years(seed, n, 1));
        CHECKS.due("years " + seed + " " + n + ": silent", silent, () -> x.years(seed, n, 2));
    }

    /** "n HOURS (0 to 200) from now on": none; and the last one, by a spring that thaws in it */
    private static void yearsEnds() {
        DripCups x = Checks.cave("cup 9 4 20;cup 9 8 20;");
        years(x, 0, 0, 0, 12, 2);
        x.hours(1);
        years(x, 0, 0, 0, 7, 2);
        // seed 3 draws 5, 3, 3: nothing is done ahead of the first three hours
        DripCups y = Checks.cave("cup 1 0 1;cup 30 0 2;");
        years(y, 3, 1, 1, 2, 1);
        years(y, 3, 2, 2, 4, 1);
        years(y, 3, 3, 3, 6, 1);
        CHECKS.due("nothing changes: the hour", 0, () -> y.count(1));
        CHECKS.due("nothing changes: fill", 0, () -> y.count(3));
        CHECKS.due("nothing changes: acts", 0, () -> y.count(7));
    }

    /** "ahead of each a DRAW of 6: 0 the SPRING .. 1 a DRAW of CUPS is CRACKED .. 2 a DRAW of CUPS is LED .." */
    private static void yearsDraws() {
        DripCups springs = Checks.cave("cup 9 0 3;cup 9 0 4;cup 9 0 5;");
        // 0 and the cup 0, 1, 2; 3, 4 and 5: nothing
        years(springs, 0, 1, 0, 9, 3);
        years(springs, 9, 1, 0, 8, 3);
        years(springs, 13, 1, 0, 7, 3);
        years(springs, 11, 1, 0, 12, 3);
        years(springs, 7, 1, 0, 12, 3);
        years(springs, 3, 1, 0, 12, 3);
        springs.plug(0, true);
        years(springs, 0, 1, 0, 12, 3);
        years(springs, 9, 1, 0, 5, 3);
        // 13 plugs cup 1 of two, and lets it run again ahead of the second hour
        DripCups two = Checks.cave("cup 9 0 1;cup 9 0 3;");
        years(two, 13, 1, 0, 1, 2);
        years(two, 13, 2, 0, 5, 2);
        // 173 cracks it to 1, 42 to 30: that tips nothing, fill is kept to one less
        DripCups full = Checks.cave("cup 20 19 0;");
        years(full, 173, 1, 0, 0, 1);
        years(full, 42, 1, 0, 19, 1);
        DripCups drop = Checks.cave("cup 20 19 1;");
        years(drop, 173, 1, 1, 0, 0);
        years(drop, 42, 1, 0, 20, 1);
        // 0 into 2 by 6, into 1 by 33, into itself, so on the floor, by 48
        DripCups led = Checks.cave("cup 1 0 1;cup 1 0 0;cup 9 0 0;pipe 0 1;");
        years(led, 3, 1, 2, 0, 1);
        years(led, 6, 1, 1, 1, 2);
        years(led, 33, 1, 2, 0, 1);
        years(led, 48, 1, 1, 0, 2);
        // 1 into 0, so on the floor, by 1; into 2 by 39
        DripCups chain = Checks.cave("cup 1 0 1;cup 1 0 0;cup 9 0 0;pipe 0 1;pipe 1 2;");
        years(chain, 3, 1, 2, 1, 1);
        years(chain, 1, 1, 2, 0, 1);
        years(chain, 39, 1, 2, 1, 1);
        // of two by turns only the told one is left
        DripCups turns = Checks.cave("cup 1 0 3;cup 9 0 0;cup 2 0 0;pipe 0 1 2;");
        years(turns, 3, 1, 3, 3, 2);
        years(turns, 6, 1, 4, 1, 1);
    }

    /** "A seed becomes itself times 1103515245 and 12345 (an int that wraps); a DRAW of n is its bits 16 to 30 MOD n" */
    private static void yearsAsTheModel() {
        String text = "cup 4 1 3;cup 2 0 0;cup 3 2 1;cup 5 0 0;pipe 0 1 2;pipe 1 3;pipe 2 3;leaks hour/7=1;frost hour/5=3;";
        DripCups x = Checks.cave(text);
        Model model = new Model();
        model.s = Model.parse(text);
        for (int seed : new int[] {0, 1, -1, LEAST, MOST, 65536, 32767, 123456789, -987654321}) {
            for (int n : new int[] {0, 1, 2, 199, 200}) {
                years(x, seed, n, model.years(seed, n, 0), model.years(seed, n, 1), model.years(seed, n, 2));
            }
        }
    }

    /** "how often all tip .., all together; FILL of all ..; how many CUPS": of one cup, and of nine */
    private static void yearsOfOneAndNine() {
        // 3 draws nothing that is done ahead of three hours
        DripCups one = Checks.cave("cup 2 1 1;");
        years(one, 3, 1, 1, 0, 0);
        years(one, 3, 2, 1, 1, 0);
        DripCups nine = Checks.cave("cup 2 1 1;".repeat(4) + "cup 9 3 1;".repeat(4) + "cup 1 0 20;");
        years(nine, 3, 1, 24, 16, 4);
        years(nine, 3, 3, 68, 24, 4);
        // 47 plugs the ninth cup, 132 leads the eighth into it
        years(nine, 47, 1, 4, 16, 5);
        DripCups led = Checks.cave("cup 9 3 0;".repeat(7) + "cup 1 0 1;cup 9 8 0;");
        years(led, 3, 1, 1, 29, 8);
        years(led, 132, 1, 2, 21, 7);
    }

    /** "(Without CUPS nothing is drawn behind 0 to 2.)" */
    private static void yearsWithoutCups() {
        DripCups x = new DripCups();
        for (int seed : new int[] {0, 1, 5, LEAST, MOST}) {
            years(x, seed, 200, 0, 0, 0);
        }
    }
}
