/** The edges that the document names for promises 13 to 17, 32 to 35 and 39 to 41. */
public final class AheadEdgesTest {
    private static final Checks CHECKS = new Checks();
    private static final int LEAST = Integer.MIN_VALUE;
    private static final int MOST = Integer.MAX_VALUE;
    private static final int[] NO_CUPS = {-1, 3, 8, 9, LEAST, MOST};
    private static final int[] NO_BITS = {8, 9, 511, 512, -1, LEAST, MOST};
    private static final int[] NOT_0_TO_200 = {-1, 201, LEAST, MOST};
    private static final int[] NOT_1_TO_200 = {0, -1, 201, LEAST, MOST};

    public static void main(String[] args) {
        thenThrows();
        thenEnds();
        tippingThrows();
        tippingEnds();
        nextThrows();
        nextEnds();
        togetherThrows();
        togetherEnds();
        soundThrows();
        silence();
        loudest();
        laterThrows();
        fullest();
        dry();
        lost();
        oftenestThrows();
        oftenest();
        round();
        pauseThrows();
        pause();
        chorusThrows();
        chorus();
        neverThrows();
        never();
        swellThrows();
        swell();
        fromNowOn();
        CHECKS.end();
    }

    private static void illegal(String what, Checks.CallOn call) {
        CHECKS.refused(what, -1, Checks.ILLEGAL, Checks::used, call);
    }

    private static void noSuch(String what, Checks.CallOn call) {
        CHECKS.refused(what, -1, Checks.NO_SUCH, Checks::used, call);
    }

    /** A cup that tips only in this hour, the 1st one being the one that comes first. */
    private static DripCups tipsIn(int k) {
        return Checks.cave("cup 1 0 1;frost not hour=" + (k - 1) + ";");
    }

    private static DripCups tipsIn(int k, int other) {
        return Checks.cave("cup 1 0 1;frost not (hour=" + (k - 1) + " or hour=" + (other - 1) + ");");
    }

    // ---- promise 13 ----

    /** "NoSuchElementException: also another what. IllegalArgumentException (behind that): not 0 to 200." */
    private static void thenThrows() {
        for (int hours : NOT_0_TO_200) {
            illegal("then 0 " + hours + " 0", x -> x.then(0, hours, 0));
            illegal("then 2 " + hours + " 1", x -> x.then(2, hours, 1));
            noSuch("then 3 " + hours, x -> x.then(3, hours, 0));
            noSuch("then what 2, " + hours, x -> x.then(0, hours, 2));
            noSuch("then what -1, " + hours, x -> x.then(0, hours, -1));
        }
        for (int cup : NO_CUPS) {
            noSuch("then " + cup, x -> x.then(cup, 1, 0));
        }
        for (int what : new int[] {-1, 2, LEAST, MOST}) {
            noSuch("then what " + what, x -> x.then(0, 1, what));
        }
    }

    /** "THEN, behind so many HOURS (0 to 200): FILL of a CUP, how often it TIPPED in them." */
    private static void thenEnds() {
        DripCups x = tipsIn(200);
        CHECKS.due("in 199", 0, () -> x.then(0, 199, 1));
        CHECKS.due("in 200", 1, () -> x.then(0, 200, 1));
        DripCups y = Checks.cave("cup 30 7 0;cup 30 0 20;frost hour=0 or hour<199;");
        CHECKS.due("fill now", 7, () -> y.then(0, 0, 0));
        CHECKS.due("tipped in none", 0, () -> y.then(0, 0, 1));
        CHECKS.due("fill behind 199", 0, () -> y.then(1, 199, 0));
        CHECKS.due("fill behind 200", 20, () -> y.then(1, 200, 0));
        DripCups z = Checks.cave("cup 1 0 20;");
        CHECKS.due("in no hour", 0, () -> z.then(0, 0, 1));
        CHECKS.due("in 1", 20, () -> z.then(0, 1, 1));
        CHECKS.due("in 200", 4000, () -> z.then(0, 200, 1));
        z.hours(3);
        CHECKS.due("in them, not ever", 20, () -> z.then(0, 1, 1));
        CHECKS.due("in no hour, not ever", 0, () -> z.then(0, 0, 1));
    }

    // ---- promise 14 ----

    /** "IllegalArgumentException: not 1 to 200." */
    private static void tippingThrows() {
        for (int k : NOT_1_TO_200) {
            illegal("tipping " + k, x -> x.tipping(k));
        }
    }

    /** "TIPPING in the k-th HOUR (1 to 200): CUPS that tip in it, as bits." */
    private static void tippingEnds() {
        for (int k : new int[] {1, 2, 199, 200}) {
            DripCups x = tipsIn(k);
            for (int other : new int[] {1, 2, 199, 200}) {
                CHECKS.due("tips in " + k + ", asked " + other, k == other ? 1 : 0, () -> x.tipping(other));
            }
        }
        DripCups nine = Checks.cave("cup 1 0 1;".repeat(9));
        CHECKS.due("all nine", 511, () -> nine.tipping(1));
        CHECKS.due("all nine in the 200th", 511, () -> nine.tipping(200));
    }

    // ---- promise 15 ----

    private static void nextThrows() {
        for (int cup : NO_CUPS) {
            noSuch("next " + cup, x -> x.next(cup));
        }
    }

    /** "NEXT: in which HOUR (1 to 200) a CUP tips next; none." */
    private static void nextEnds() {
        for (int k : new int[] {1, 2, 199, 200}) {
            DripCups x = tipsIn(k);
            CHECKS.due("next in " + k, k, () -> x.next(0));
        }
        DripCups late = tipsIn(201);
        CHECKS.due("next in 201", -1, () -> late.next(0));
        late.hours(1);
        CHECKS.due("an hour later it is the 200th", 200, () -> late.next(0));
        DripCups both = tipsIn(3, 5);
        CHECKS.due("the first of two", 3, () -> both.next(0));
        both.hours(3);
        CHECKS.due("behind it the second", 2, () -> both.next(0));
        both.hours(2);
        CHECKS.due("behind both", -1, () -> both.next(0));
    }

    // ---- promise 16 ----

    /** "IllegalArgumentException: not bits of CUPS." */
    private static void togetherThrows() {
        for (int some : NO_BITS) {
            illegal("together " + some, x -> x.together(some));
        }
        DripCups nine = Checks.cave("cup 1 0 1;".repeat(9));
        CHECKS.due("all nine", 1, () -> nine.together(511));
        CHECKS.due("a tenth", Checks.ILLEGAL, () -> nine.together(512));
    }

    /** "TOGETHER: the first HOUR (1 to 200) in which all of some CUPS tip (others may, too); none", "(of no CUPS: 1)" */
    private static void togetherEnds() {
        DripCups silent = Checks.cave("cup 9 0 0;cup 9 0 0;");
        CHECKS.due("of no cups", 1, () -> silent.together(0));
        CHECKS.due("none", -1, () -> silent.together(1));
        for (int k : new int[] {1, 199, 200}) {
            DripCups x = Checks.cave("cup 1 0 1;cup 1 0 1;cup 1 0 1;frost cup=1 and not hour=" + (k - 1) + ";");
            CHECKS.due("two in " + k + ", another one too", k, () -> x.together(3));
        }
        DripCups late = Checks.cave("cup 1 0 1;cup 1 0 1;frost cup=1 and not hour=200;");
        CHECKS.due("in 201", -1, () -> late.together(3));
        DripCups never = Checks.cave("cup 2 0 1;cup 2 1 1;");
        CHECKS.due("each tips, but never both", -1, () -> never.together(3));
    }

    // ---- promise 17 ----

    /** "NoSuchElementException: another what. IllegalArgumentException (behind that): not 1 to 200." */
    private static void soundThrows() {
        for (int hours : NOT_1_TO_200) {
            illegal("silence " + hours, x -> x.sound(hours, 0));
            illegal("loudest " + hours, x -> x.sound(hours, 1));
            noSuch("sound what 2, " + hours, x -> x.sound(hours, 2));
            noSuch("sound what -1, " + hours, x -> x.sound(hours, -1));
        }
        for (int what : new int[] {-1, 2, LEAST, MOST}) {
            noSuch("sound what " + what, x -> x.sound(1, what));
        }
    }

    /** "SILENCE: the longest row of HOURS of so many (1 to 200) in which none tips." */
    private static void silence() {
        DripCups always = Checks.cave("cup 1 0 1;");
        CHECKS.due("no silence in 1", 0, () -> always.sound(1, 0));
        CHECKS.due("no silence in 200", 0, () -> always.sound(200, 0));
        DripCups never = Checks.cave("cup 9 0 0;");
        CHECKS.due("silence in 1", 1, () -> never.sound(1, 0));
        CHECKS.due("silence in 200", 200, () -> never.sound(200, 0));
        int[][] rows = {{1, 199}, {2, 198}, {100, 100}, {101, 100}, {102, 101}, {199, 198}, {200, 199}, {201, 200}};
        for (int[] row : rows) {
            DripCups x = tipsIn(row[0]);
            CHECKS.due("silence around " + row[0], row[1], () -> x.sound(200, 0));
        }
        DripCups two = tipsIn(4, 10);
        CHECKS.due("three ahead", 3, () -> two.sound(7, 0));
        CHECKS.due("four between", 4, () -> two.sound(8, 0));
        CHECKS.due("five between", 5, () -> two.sound(15, 0));
        CHECKS.due("six behind", 6, () -> two.sound(16, 0));
    }

    /** "LOUDEST: the HOUR of so many (1 to 200) in which most CUPS tip (of like ones the first)." */
    private static void loudest() {
        DripCups never = Checks.cave("cup 9 0 0;");
        CHECKS.due("none tips: the first", 1, () -> never.sound(200, 1));
        DripCups x = tipsIn(200);
        CHECKS.due("in 199 none", 1, () -> x.sound(199, 1));
        CHECKS.due("in 200 the last", 200, () -> x.sound(200, 1));
        DripCups like = tipsIn(3, 5);
        CHECKS.due("of like ones the first", 3, () -> like.sound(200, 1));
        // most cups, not most tips: in the first hour one tips twenty times
        DripCups y = Checks.cave("cup 1 0 20;cup 2 0 1;frost cup=0 and not hour=0 and not hour=1;");
        CHECKS.due("most cups", 2, () -> y.sound(200, 1));
        CHECKS.due("of one hour", 1, () -> y.sound(1, 1));
    }

    // ---- promise 32 ----

    /** "NoSuchElementException: another what. IllegalArgumentException (behind that): not 0 to 200." */
    private static void laterThrows() {
        for (int hours : NOT_0_TO_200) {
            for (int what = 0; what < 3; what++) {
                int w = what;
                illegal("later " + hours + " " + w, x -> x.later(hours, w));
            }
            noSuch("later what 3, " + hours, x -> x.later(hours, 3));
            noSuch("later what -1, " + hours, x -> x.later(hours, -1));
        }
        for (int what : new int[] {-1, 3, LEAST, MOST}) {
            noSuch("later what " + what, x -> x.later(1, what));
        }
    }

    /** "FULLEST behind so many HOURS (0 to 200): the CUP of which FILL is most (of like ones the least); none." */
    private static void fullest() {
        DripCups none = new DripCups();
        CHECKS.due("none", -1, () -> none.later(0, 0));
        CHECKS.due("none behind 200", -1, () -> none.later(200, 0));
        DripCups dry = Checks.cave("cup 9 0 0;cup 9 0 0;");
        CHECKS.due("all are empty: the least", 0, () -> dry.later(200, 0));
        DripCups x = Checks.cave("cup 9 3 0;cup 9 4 0;cup 9 4 0;cup 9 3 1;frost hour<199;");
        CHECKS.due("now: of like ones the least", 1, () -> x.later(0, 0));
        CHECKS.due("behind 200: alike", 1, () -> x.later(200, 0));
        DripCups y = Checks.cave("cup 9 3 0;cup 9 4 0;cup 9 4 0;cup 9 3 2;frost hour<199;");
        CHECKS.due("behind 199", 1, () -> y.later(199, 0));
        CHECKS.due("behind 200: one more", 3, () -> y.later(200, 0));
        DripCups rest = Checks.cave("cup 30 5 0;cup 6 5 0;");
        CHECKS.due("fill counts, not what is missing", 0, () -> rest.later(0, 0));
    }

    /** "DRY behind so many HOURS (0 to 200): CUPS of which FILL is 0, as bits." */
    private static void dry() {
        DripCups x = Checks.cave("cup 9 0 0;cup 9 1 0;cup 2 1 1;cup 9 8 1;frost hour<199;");
        CHECKS.due("now", 0b0001, () -> x.later(0, 1));
        CHECKS.due("behind 199", 0b0001, () -> x.later(199, 1));
        CHECKS.due("behind 200: just emptied by tipping", 0b1101, () -> x.later(200, 1));
        DripCups nine = Checks.cave("cup 9 0 0;".repeat(9));
        CHECKS.due("all nine", 511, () -> nine.later(0, 1));
        DripCups leaky = Checks.cave("cup 9 2 0;leaks 1;");
        CHECKS.due("a drop is left", 0, () -> leaky.later(1, 1));
        CHECKS.due("none is left", 1, () -> leaky.later(2, 1));
    }

    /** "LOST in so many HOURS (0 to 200): how many drops go on the floor, by tipping or by LEAKS." */
    private static void lost() {
        DripCups x = Checks.cave("cup 1 0 2;cup 3 0 0;cup 9 8 0;pipe 0 1;leaks cup=2 and hour=199;");
        CHECKS.due("in none", 0, () -> x.later(0, 2));
        // 398 drops into 1 tip it 132 times; in 200 hours 400 tip it 133 times, and 2 leaks one
        CHECKS.due("in 199", 132, () -> x.later(199, 2));
        CHECKS.due("in 200", 134, () -> x.later(200, 2));
        CHECKS.due("asked again", 134, () -> x.later(200, 2));
        CHECKS.due("in 3", 2, () -> x.later(3, 2));
        x.lead(0, -1);
        CHECKS.due("led on the floor", 6, () -> x.later(3, 2));
        DripCups most = Checks.cave("cup 1 0 20;".repeat(9));
        CHECKS.due("the most", 36000, () -> most.later(200, 2));
        DripCups leaks = Checks.cave("cup 9 5 0;leaks 0-3;");
        CHECKS.due("a leak below 0 loses none", 0, () -> leaks.later(200, 2));
    }

    // ---- promise 33 ----

    /** "IllegalArgumentException: not 1 to 200." */
    private static void oftenestThrows() {
        for (int hours : NOT_1_TO_200) {
            illegal("oftenest " + hours, x -> x.oftenest(hours));
        }
        DripCups none = new DripCups();
        CHECKS.due("no cups, 0 hours", Checks.ILLEGAL, () -> none.oftenest(0));
        CHECKS.due("no cups, 1 hour", -1, () -> none.oftenest(1));
        CHECKS.due("no cups, 200 hours", -1, () -> none.oftenest(200));
        CHECKS.due("no cups, 201 hours", Checks.ILLEGAL, () -> none.oftenest(201));
    }

    /** "OFTENEST in so many HOURS (1 to 200): that which tips most often (of like ones the least); none." */
    private static void oftenest() {
        DripCups silent = Checks.cave("cup 9 0 0;cup 9 0 0;");
        CHECKS.due("none tips: the least", 0, () -> silent.oftenest(200));
        DripCups x = Checks.cave("cup 9 0 0;cup 1 0 1;cup 1 0 1;cup 1 0 2;frost cup=3 and hour<199 or cup<3 and 0<hour;");
        CHECKS.due("of like ones the least", 1, () -> x.oftenest(1));
        CHECKS.due("in 199", 1, () -> x.oftenest(199));
        CHECKS.due("in 200 twice in one hour", 3, () -> x.oftenest(200));
        x.hours(1);
        CHECKS.due("what has tipped ahead doesn't count", 0, () -> x.oftenest(198));
    }

    // ---- promise 34 ----

    /** "ROUND: behind how many HOURS (1 to 200) FILL of all CUPS is first as it is now; none." */
    private static void round() {
        DripCups still = Checks.cave("cup 9 4 0;");
        CHECKS.due("at once", 1, () -> still.round());
        DripCups last = Checks.cave("cup 2 0 1;frost not (hour=0 or hour=199);");
        CHECKS.due("behind 200", 200, () -> last.round());
        DripCups late = Checks.cave("cup 2 0 1;frost not (hour=0 or hour=200);");
        CHECKS.due("behind 201", -1, () -> late.round());
        DripCups before = Checks.cave("cup 2 0 1;frost not (hour=0 or hour=198);");
        CHECKS.due("behind 199", 199, () -> before.round());
        DripCups all = Checks.cave("cup 2 0 1;cup 3 1 1;");
        CHECKS.due("all of them", 6, () -> all.round());
        DripCups turns = Checks.cave("cup 1 0 1;cup 1 0 0;cup 1 0 0;pipe 0 1 2;");
        CHECKS.due("only fill, not whose turn it is", 1, () -> turns.round());
    }

    // ---- promise 35 ----

    private static void pauseThrows() {
        for (int cup : NO_CUPS) {
            noSuch("pause " + cup, x -> x.pause(cup));
        }
    }

    /** "from its NEXT tipping to the one behind that (another HOUR, both within 200); none." */
    private static void pause() {
        int[][] rows = {{1, 2, 1}, {1, 200, 199}, {199, 200, 1}, {7, 19, 12}, {1, 201, -1}, {200, 201, -1}, {201, 202, -1}};
        for (int[] row : rows) {
            DripCups x = tipsIn(row[0], row[1]);
            CHECKS.due("pause from " + row[0] + " to " + row[1], row[2], () -> x.pause(0));
            CHECKS.due("asked again", row[2], () -> x.pause(0));
        }
        DripCups once = tipsIn(5);
        CHECKS.due("tips once", -1, () -> once.pause(0));
        DripCups never = Checks.cave("cup 9 0 0;");
        CHECKS.due("never tips", -1, () -> never.pause(0));
        DripCups often = Checks.cave("cup 1 0 20;frost not (hour=3 or hour=8);");
        CHECKS.due("often in one hour: another hour", 5, () -> often.pause(0));
    }

    // ---- promise 39 ----

    /** "IllegalArgumentException: not bits of CUPS, not 1 to 200." */
    private static void chorusThrows() {
        for (int some : NO_BITS) {
            illegal("chorus " + some, x -> x.chorus(some, 1));
            illegal("chorus " + some + " of 0 hours", x -> x.chorus(some, 0));
        }
        for (int hours : NOT_1_TO_200) {
            illegal("chorus of " + hours + " hours", x -> x.chorus(1, hours));
            illegal("chorus of none in " + hours + " hours", x -> x.chorus(0, hours));
        }
    }

    /** "CHORUS: in how many of so many HOURS (1 to 200) all of some CUPS tip." */
    private static void chorus() {
        DripCups x = tipsIn(1, 200);
        CHECKS.due("in 1", 1, () -> x.chorus(1, 1));
        CHECKS.due("in 199", 1, () -> x.chorus(1, 199));
        CHECKS.due("in 200", 2, () -> x.chorus(1, 200));
        CHECKS.due("of no cups in 1", 1, () -> x.chorus(0, 1));
        CHECKS.due("of no cups in 200", 200, () -> x.chorus(0, 200));
        DripCups nine = Checks.cave("cup 1 0 1;".repeat(8) + "cup 2 0 1;");
        CHECKS.due("all nine", 100, () -> nine.chorus(511, 200));
        CHECKS.due("eight of nine", 200, () -> nine.chorus(255, 200));
        CHECKS.due("the ninth", 1, () -> nine.chorus(256, 3));
    }

    // ---- promise 40 ----

    /** "IllegalArgumentException: not 1 to 200." */
    private static void neverThrows() {
        for (int hours : NOT_1_TO_200) {
            illegal("never " + hours, x -> x.never(hours));
        }
    }

    /** "NEVER in so many HOURS (1 to 200): CUPS that don't tip in them, as bits." */
    private static void never() {
        DripCups x = tipsIn(200);
        CHECKS.due("in 1", 1, () -> x.never(1));
        CHECKS.due("in 199", 1, () -> x.never(199));
        CHECKS.due("in 200", 0, () -> x.never(200));
        DripCups nine = Checks.cave("cup 9 0 0;".repeat(9));
        CHECKS.due("all nine", 511, () -> nine.never(200));
        DripCups behind = tipsIn(1);
        behind.hours(1);
        CHECKS.due("what has tipped ahead doesn't count", 1, () -> behind.never(200));
    }

    // ---- promise 41 ----

    /** "IllegalArgumentException (behind NoSuchElementException): not 0 to 200." */
    private static void swellThrows() {
        for (int hours : NOT_0_TO_200) {
            illegal("swell " + hours, x -> x.swell(0, hours));
            noSuch("swell 3 " + hours, x -> x.swell(3, hours));
        }
        for (int cup : NO_CUPS) {
            noSuch("swell " + cup, x -> x.swell(cup, 1));
        }
    }

    /** "SWELL of a CUP in so many HOURS (0 to 200): the most FILL that it has now, or behind one of them." */
    private static void swell() {
        DripCups x = Checks.cave("cup 30 7 3;leaks (hour=0)*9;frost hour<199;");
        CHECKS.due("now", 7, () -> x.swell(0, 0));
        CHECKS.due("behind one it is less", 7, () -> x.swell(0, 1));
        CHECKS.due("behind all", 7, () -> x.swell(0, 200));
        DripCups y = Checks.cave("cup 30 7 3;frost hour<199;");
        CHECKS.due("in 199", 7, () -> y.swell(0, 199));
        CHECKS.due("in 200", 10, () -> y.swell(0, 200));
        DripCups z = Checks.cave("cup 10 0 3;");
        CHECKS.due("3, 6, 9, then it tips", 9, () -> z.swell(0, 4));
        CHECKS.due("3, 6", 6, () -> z.swell(0, 2));
        // 8 and 3 are 11: it tips within the hour, so 10 and more are never its fill
        DripCups w = Checks.cave("cup 10 8 3;");
        CHECKS.due("what it has within an hour doesn't count", 8, () -> w.swell(0, 1));
    }

    /** "(If only HOURS go by, from now on; the k-th one, 1 on, is the one that comes first:)" */
    private static void fromNowOn() {
        DripCups x = tipsIn(10);
        x.hours(9);
        CHECKS.due("tipping", 1, () -> x.tipping(1));
        CHECKS.due("next", 1, () -> x.next(0));
        CHECKS.due("together", 1, () -> x.together(1));
        CHECKS.due("loudest", 1, () -> x.sound(9, 1));
        x.hours(1);
        CHECKS.due("behind it", -1, () -> x.next(0));
        x.undo();
        CHECKS.due("undone", 1, () -> x.next(0));
        x.undo();
        CHECKS.due("all undone", 10, () -> x.next(0));
    }
}
