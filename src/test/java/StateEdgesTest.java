import java.lang.reflect.Field;

/** The edges that the document names for promises 5 to 12, 42 and 43: each sentence has a method of its own. */
public final class StateEdgesTest {
    private static final Checks CHECKS = new Checks();
    private static final int LEAST = Integer.MIN_VALUE;
    private static final int MOST = Integer.MAX_VALUE;
    private static final int[] NO_CUPS = {-1, 3, 8, 9, LEAST, MOST};

    public static void main(String[] args) throws ReflectiveOperationException {
        countThrows();
        countEmptyAndFull();
        countRootsAndAlike();
        statusCounts();
        mostTips();
        cupThrows();
        cupLeastAndMost();
        hoursRefused();
        hoursTaken();
        lastHour();
        leadRefused();
        leadTaken();
        leadTurns();
        plugRefused();
        plugTaken();
        pourRefused();
        pourTaken();
        pourBelow();
        crackRefused();
        crackTaken();
        undoNone();
        undoEach();
        fortyActs();
        imageNone();
        imageKeepsAll();
        imageInPlaceOfAnother();
        imageIsACopy();
        imageOfFull();
        CHECKS.end();
    }

    // ---- promise 5 ----

    /** "NoSuchElementException: another what." */
    private static void countThrows() {
        for (int what : new int[] {-1, 13, LEAST, MOST}) {
            CHECKS.refused("count " + what, -1, Checks.NO_SUCH, Checks::used, x -> x.count(what));
        }
    }

    /** The least and the most that count() can tell: no cups, nine full ones. */
    private static void countEmptyAndFull() {
        DripCups x = Checks.cave("cup 30 29 20;".repeat(9));
        int[] due = {9, 0, 0, 261, 0, 511, 36, 0, 0, 0, 0, 0, 0};
        int[] none = {0, 0, 0, 0, 0, 0, 0, 0, 0, 0, 0, 0, 0};
        DripCups empty = new DripCups();
        for (int what = 0; what <= 12; what++) {
            int w = what;
            CHECKS.due("full: count " + w, due[w], () -> x.count(w));
            CHECKS.due("empty: count " + w, none[w], () -> empty.count(w));
        }
        for (int cup = 0; cup < 9; cup++) {
            int c = cup;
            CHECKS.is("plug " + c, true, () -> x.plug(c, true));
            CHECKS.due("plugged to " + c, (2 << c) - 1, () -> x.count(2));
        }
        for (int i = 1; i <= 8; i++) {
            x.hear(8, 40, true);
        }
        CHECKS.due("heard", 8, () -> x.count(8));
        CHECKS.due("acts", 9, () -> x.count(7));
        x.pour(8, 50);
        CHECKS.due("how often all have tipped", 2, () -> x.count(4));
        CHECKS.due("fill of all", 251, () -> x.count(3));
        Checks.feed(x, " ".repeat(700));
        CHECKS.due("bytes", 700, () -> x.count(9));
    }

    /** "5 ROOTS (bits), 6 ALIKE": into which no PIPE leads; couples alike in all three */
    private static void countRootsAndAlike() {
        DripCups x = Checks.cave("cup 4 1 2;".repeat(4) + "pipe 0 3 2;");
        CHECKS.due("the first one and the second one of a pipe are none", 0b0011, () -> x.count(5));
        x.lead(0, 3);
        CHECKS.due("led into one of them", 0b0111, () -> x.count(5));
        x.lead(1, 2);
        x.lead(2, 3);
        CHECKS.due("led into another one", 0b0011, () -> x.count(5));
        x.lead(0, -1);
        x.lead(1, -1);
        x.lead(2, -1);
        CHECKS.due("all on the floor", 0b1111, () -> x.count(5));
        CHECKS.due("four alike are six couples", 6, () -> x.count(6));
        x.crack(3, 5);
        CHECKS.due("one holds more", 3, () -> x.count(6));
        x.pour(2, 1);
        CHECKS.due("one is fuller", 1, () -> x.count(6));
        DripCups y = Checks.cave("cup 4 1 2;cup 4 1 3;cup 4 1 2;cup 5 1 2;cup 4 2 2;");
        CHECKS.due("alike in all three", 1, () -> y.count(6));
        DripCups two = Checks.cave("cup 4 1 2;cup 4 1 3;");
        CHECKS.due("none", 0, () -> two.count(6));
    }

    /** "STATUS: how many calls were refused: 0 of TEXTS with a FAULT, 1 of ACTS, 2 of what is HEARD." */
    private static void statusCounts() {
        DripCups x = Checks.cave("cup 3 1 1;cup 3 1 1;");
        int[] due = {0, 0, 0};
        for (int i = 1; i <= 9; i++) {
            int which = i % 3;
            due[which]++;
            if (which == 0) {
                Checks.read(x, "?");
            } else if (which == 1) {
                x.hours(0);
            } else {
                x.hear(0, 0, true);
            }
            for (int s = 0; s < 3; s++) {
                int status = s;
                int want = due[s];
                CHECKS.due("status " + s + " behind " + i, want, () -> x.count(10 + status));
            }
        }
        x.image();
        x.hours(0);
        x.hours(1);
        x.undo();
        x.restore();
        CHECKS.due("neither undo nor restore takes it back", 4, () -> x.count(11));
    }

    private static Object inside(Object of, String name) throws ReflectiveOperationException {
        Field field = of.getClass().getDeclaredField(name);
        field.setAccessible(true);
        return field.get(of);
    }

    /**
     * "(How often a CUP has tipped counts to 1000000000.)", "4 how often all have tipped (1000000000 at most)".
     * No 512 calls come that far, so the test sets the row inside the object, however that may be named.
     */
    private static void mostTips() throws ReflectiveOperationException {
        DripCups x = Checks.cave("cup 1 0 0;".repeat(9));
        int[] tips = (int[]) inside(inside(inside(x, "now"), "cups"), "tips");
        tips[0] = 999999998;
        CHECKS.due("how often by this", 1, () -> x.pour(0, 1));
        CHECKS.due("one less than the most", 999999999, () -> x.cup(0, 5));
        CHECKS.due("of all", 999999999, () -> x.count(4));
        CHECKS.due("a cup more", 2, () -> x.pour(1, 2));
        CHECKS.due("of all: the most", 1000000000, () -> x.count(4));
        CHECKS.due("how often by this, beyond", 3, () -> x.pour(0, 3));
        CHECKS.due("the most", 1000000000, () -> x.cup(0, 5));
        CHECKS.due("once more", 50, () -> x.pour(0, 50));
        CHECKS.due("it stays the most", 1000000000, () -> x.cup(0, 5));
        for (int cup = 0; cup < 9; cup++) {
            tips[cup] = 1000000000;
        }
        CHECKS.due("of all nine: the most", 1000000000, () -> x.count(4));
        DripCups ahead = Checks.cave("cup 1 0 3;leaks tips;frost not (tips<1000*1000*1000);");
        ((int[]) inside(inside(inside(ahead, "now"), "cups"), "tips"))[0] = 999999999;
        CHECKS.due("an hour to the most, then it is frozen by that", 3, () -> ahead.then(0, 9, 1));
        ahead.hours(1);
        CHECKS.due("the most behind an hour", 1000000000, () -> ahead.cup(0, 5));
    }

    // ---- promise 6 ----

    /** "NoSuchElementException: no such CUP (as everywhere), what." */
    private static void cupThrows() {
        for (int cup : NO_CUPS) {
            CHECKS.refused("cup " + cup, -1, Checks.NO_SUCH, Checks::used, x -> x.cup(cup, 0));
        }
        for (int what : new int[] {-1, 9, LEAST, MOST}) {
            CHECKS.refused("cup 0 " + what, -1, Checks.NO_SUCH, Checks::used, x -> x.cup(0, what));
        }
        CHECKS.refused("no such cup, no such what", -1, Checks.NO_SUCH, Checks::used, x -> x.cup(3, 9));
        DripCups nine = Checks.cave("cup 9 0 0;".repeat(9));
        CHECKS.due("the ninth", 9, () -> nine.cup(8, 0));
        CHECKS.due("the tenth", Checks.NO_SUCH, () -> nine.cup(9, 0));
    }

    /** The least and the most of each what. */
    private static void cupLeastAndMost() {
        String pipes = "pipe 0 1;pipe 1 2;pipe 2 3;pipe 3 4;pipe 4 5;pipe 5 6;pipe 6 7;pipe 7 8;";
        DripCups x = Checks.cave("cup 30 29 20;cup 1 0 0;cup 30 0 0;" + "cup 2 1 1;".repeat(6) + pipes);
        int[][] due = {{30, 29, 20, 1, 1, 0, 0, 8, 1}, {1, 0, 0, 2, 2, 0, 0, 7, 1}, {30, 0, 0, 3, 3, 0, 0, 6, 30}};
        for (int cup = 0; cup < 3; cup++) {
            for (int what = 0; what < 9; what++) {
                int c = cup;
                int w = what;
                CHECKS.due("cup " + c + " " + w, due[c][w], () -> x.cup(c, w));
            }
        }
        CHECKS.due("the last one's next drop", -1, () -> x.cup(8, 3));
        CHECKS.due("the one behind that", -1, () -> x.cup(8, 4));
        CHECKS.due("not deep", 0, () -> x.cup(8, 7));
        DripCups y = Checks.cave("cup 9 0 0;".repeat(5) + "pipe 0 1 4;pipe 1 2;pipe 2 3;");
        CHECKS.due("deep: the longer one, told first", 3, () -> y.cup(0, 7));
        DripCups z = Checks.cave("cup 9 0 0;".repeat(5) + "pipe 0 4 1;pipe 1 2;pipe 2 3;");
        CHECKS.due("deep: the longer one, told second", 3, () -> z.cup(0, 7));
    }

    // ---- promise 7 ----

    /** "NONE (STATUS 1): not 1 to 20" */
    private static void hoursRefused() {
        for (int many : new int[] {0, 21, -1, 22, 9999, LEAST, MOST, MOST - 1}) {
            CHECKS.refused("hours " + many, 1, -1, Checks::used, x -> x.hours(many));
        }
    }

    /** "HOURS go by: the HOUR": from 1 to 20, one act each */
    private static void hoursTaken() {
        for (int many = 1; many <= 20; many++) {
            int n = many;
            DripCups x = Checks.cave("cup 21 0 1;");
            CHECKS.due("hours " + n, n, () -> x.hours(n));
            CHECKS.due("a drop in each of " + n, n, () -> x.cup(0, 1));
            CHECKS.due("one act", 1, () -> x.count(7));
            CHECKS.due("none refused", 0, () -> x.count(11));
            x.undo();
            CHECKS.due("all undone at once", 0, () -> x.count(1));
        }
    }

    /** "NONE (STATUS 1): .. it would be above 9999" */
    private static void lastHour() {
        DripCups x = new DripCups();
        for (int i = 0; i < 499; i++) {
            x.hours(20);
        }
        CHECKS.due("9980 and 20", -1, () -> x.hours(20));
        CHECKS.due("it stays", 9980, () -> x.count(1));
        CHECKS.due("it is counted", 1, () -> x.count(11));
        CHECKS.due("9980 and 19", 9999, () -> x.hours(19));
        CHECKS.due("9999 and 1", -1, () -> x.hours(1));
        CHECKS.due("9999 stays", 9999, () -> x.count(1));
        CHECKS.due("two are refused", 2, () -> x.count(11));
        CHECKS.due("the hours ahead may be above", 9, () -> x.chorus(0, 9));
        CHECKS.due("the last act is that of 19", 39, () -> x.undo());
        CHECKS.due("undone", 9980, () -> x.count(1));
    }

    // ---- promise 8 ----

    /** "False (STATUS 1): it is led just there (and nowhere else) already, INTO one not of a greater number." */
    private static void leadRefused() {
        int[][] refused = {{1, 0}, {1, 1}, {2, 0}, {2, 1}, {2, 2}, {0, 0}, {1, -1}, {2, -1}};
        for (int[] row : refused) {
            CHECKS.refused("lead " + row[0] + " " + row[1], 1, 0, Checks::used, x -> x.lead(row[0], row[1]) ? 1 : 0);
        }
        Checks.Made one = () -> {
            DripCups x = Checks.cave("cup 3 1 1;cup 3 1 1;cup 3 1 1;pipe 0 2;");
            x.lead(1, 2);
            return x;
        };
        CHECKS.refused("as it was told", 1, 0, one, x -> x.lead(0, 2) ? 1 : 0);
        CHECKS.refused("as it was led", 1, 0, one, x -> x.lead(1, 2) ? 1 : 0);
        for (int cup : NO_CUPS) {
            CHECKS.refused("lead " + cup, -1, Checks.NO_SUCH, Checks::used, x -> x.lead(cup, -1) ? 1 : 0);
            CHECKS.refused("lead " + cup + " into 2", -1, Checks.NO_SUCH, Checks::used, x -> x.lead(cup, 2) ? 1 : 0);
        }
        for (int into : new int[] {-2, 3, 9, LEAST, MOST}) {
            CHECKS.refused("lead 0 into " + into, -1, Checks.NO_SUCH, Checks::used, x -> x.lead(0, into) ? 1 : 0);
            CHECKS.refused("lead 2 into " + into, -1, Checks.NO_SUCH, Checks::used, x -> x.lead(2, into) ? 1 : 0);
        }
    }

    /** "LED elsewhere: true": with two cups into each of them, "the other one may be NONE" */
    private static void leadTaken() {
        String three = "cup 1 0 1;cup 9 0 0;cup 9 0 0;cup 9 0 0;pipe 0 1 2;";
        for (int into = -1; into < 4; into++) {
            int to = into;
            if (to == 0) {
                continue;
            }
            DripCups x = Checks.cave(three);
            CHECKS.is("lead 0 into " + to, true, () -> x.lead(0, to));
            CHECKS.due("next", to, () -> x.cup(0, 3));
            CHECKS.due("and behind it", to, () -> x.cup(0, 4));
            CHECKS.due("an act", 1, () -> x.count(7));
            CHECKS.due("not refused", 0, () -> x.count(11));
            x.hours(3);
            CHECKS.due("drops there", 3, () -> to < 0 ? 3 - x.count(3) : x.cup(to, 1));
            CHECKS.is("there again", false, () -> x.lead(0, to));
        }
    }

    /** "(the next turn is that of the first one)" */
    private static void leadTurns() {
        DripCups x = Checks.cave("cup 1 0 1;cup 9 0 0;cup 9 0 0;pipe 0 1 2;");
        x.hours(1);
        x.lead(0, 1);
        CHECKS.due("the one it is led into is next", 1, () -> x.cup(0, 3));
        CHECKS.due("and behind that", 1, () -> x.cup(0, 4));
        x.hours(1);
        CHECKS.due("it has both drops", 2, () -> x.cup(1, 1));
        x.undo();
        x.undo();
        CHECKS.due("undone: the second one's turn", 2, () -> x.cup(0, 3));
        CHECKS.due("undone: behind it the first one's", 1, () -> x.cup(0, 4));
        CHECKS.due("undone: deep", 1, () -> x.cup(0, 7));
    }

    // ---- promise 9 ----

    /** "False (STATUS 1): it is so already." */
    private static void plugRefused() {
        CHECKS.refused("plugged already", 1, 0, Checks::used, x -> x.plug(1, true) ? 1 : 0);
        CHECKS.refused("runs already", 1, 0, Checks::used, x -> x.plug(0, false) ? 1 : 0);
        CHECKS.refused("has no spring and runs", 1, 0, Checks::used, x -> x.plug(2, false) ? 1 : 0);
        for (int cup : NO_CUPS) {
            CHECKS.refused("plug " + cup, -1, Checks.NO_SUCH, Checks::used, x -> x.plug(cup, true) ? 1 : 0);
            CHECKS.refused("run " + cup, -1, Checks.NO_SUCH, Checks::used, x -> x.plug(cup, false) ? 1 : 0);
        }
    }

    /** "PLUGGED, or runs again: true." */
    private static void plugTaken() {
        DripCups x = Checks.cave("cup 9 0 1;cup 9 0 1;cup 9 0 0;");
        CHECKS.is("plug", true, () -> x.plug(0, true));
        CHECKS.is("plug what has no spring", true, () -> x.plug(2, true));
        CHECKS.due("these two", 0b101, () -> x.count(2));
        CHECKS.due("plugged", 1, () -> x.cup(0, 6));
        CHECKS.due("the other one isn't", 0, () -> x.cup(1, 6));
        x.hours(2);
        CHECKS.due("nothing came", 0, () -> x.cup(0, 1));
        CHECKS.due("into the other one it did", 2, () -> x.cup(1, 1));
        CHECKS.is("runs again", true, () -> x.plug(0, false));
        CHECKS.due("one is left", 0b100, () -> x.count(2));
        x.hours(2);
        CHECKS.due("drops come again", 2, () -> x.cup(0, 1));
        CHECKS.due("five acts", 5, () -> x.count(7));
    }

    // ---- promise 10 ----

    /** "NONE (STATUS 1): not 1 to 50." */
    private static void pourRefused() {
        for (int drops : new int[] {0, 51, -1, 52, LEAST, MOST}) {
            CHECKS.refused("pour " + drops, 1, -1, Checks::used, x -> x.pour(0, drops));
            CHECKS.refused("pour no cup " + drops, -1, Checks.NO_SUCH, Checks::used, x -> x.pour(3, drops));
        }
        for (int cup : NO_CUPS) {
            CHECKS.refused("pour into " + cup, -1, Checks.NO_SUCH, Checks::used, x -> x.pour(cup, 1));
        }
    }

    /** "POURED in: how often it tips by this." */
    private static void pourTaken() {
        int[][] rows = {{30, 0, 1, 0, 1}, {30, 28, 1, 0, 29}, {30, 29, 1, 1, 0}, {30, 29, 50, 2, 19}, {30, 9, 50, 1, 29},
            {30, 10, 50, 2, 0}, {1, 0, 1, 1, 0}, {1, 0, 50, 50, 0}, {2, 1, 50, 25, 1}};
        for (int[] row : rows) {
            DripCups x = Checks.cave("cup " + row[0] + " " + row[1] + " 7;leaks 1;");
            String text = row[2] + " into " + row[1] + " of " + row[0];
            CHECKS.due(text, row[3], () -> x.pour(0, row[2]));
            CHECKS.due(text + ": fill", row[4], () -> x.cup(0, 1));
            CHECKS.due(text + ": has tipped", row[3], () -> x.cup(0, 5));
            CHECKS.due(text + ": no hour", 0, () -> x.count(1));
            CHECKS.due(text + ": an act", 1, () -> x.count(7));
        }
        DripCups x = Checks.cave("cup 2 1 1;");
        x.hours(9);
        x.pour(0, 3);
        CHECKS.due("how often by this, not ever", 1, () -> x.pour(0, 2));
    }

    /** "(it TIPS at once as told above, as do those below it, from the least number on; no SPRINGS, no LEAKS)" */
    private static void pourBelow() {
        // 3 waits for what 1 and 2 let go: both drops of them come ahead of its tipping
        DripCups x = Checks.cave("cup 1 0 9;cup 1 0 9;cup 1 0 9;cup 2 0 9;cup 4 3 9;pipe 0 1 2;pipe 1 3;pipe 2 3;leaks 9;");
        CHECKS.due("two drops", 2, () -> x.pour(0, 2));
        int[] tips = {2, 1, 1, 1, 0};
        for (int cup = 0; cup < 5; cup++) {
            int c = cup;
            CHECKS.due("tips of " + c, tips[c], () -> x.cup(c, 5));
        }
        CHECKS.due("one that isn't below keeps all", 3, () -> x.cup(4, 1));
        CHECKS.due("into the last one", 1, () -> x.pour(4, 1));
        CHECKS.due("those above it are as they were", 5, () -> x.count(4) - x.cup(4, 5));
        x.undo();
        x.undo();
        CHECKS.due("undone", 0, () -> x.count(4));
        CHECKS.due("undone: fill", 3, () -> x.count(3));
    }

    // ---- promise 11 ----

    /** "NONE (STATUS 1): not 1 to 30, it holds as much." */
    private static void crackRefused() {
        for (int holds : new int[] {0, 31, 5, -1, LEAST, MOST}) {
            CHECKS.refused("crack to " + holds, 1, -1, Checks::used, x -> x.crack(0, holds));
        }
        for (int holds : new int[] {0, 31, 5, 1}) {
            CHECKS.refused("crack no cup to " + holds, -1, Checks.NO_SUCH, Checks::used, x -> x.crack(3, holds));
        }
        for (int cup : NO_CUPS) {
            CHECKS.refused("crack " + cup, -1, Checks.NO_SUCH, Checks::used, x -> x.crack(cup, 1));
        }
    }

    /** "CRACKED: how much it held", "(1 to 30; FILL is kept to one less than it)" */
    private static void crackTaken() {
        int[][] rows = {{10, 6, 1, 0}, {10, 6, 6, 5}, {10, 6, 7, 6}, {10, 6, 8, 6}, {10, 6, 30, 6}, {30, 29, 1, 0},
            {30, 29, 29, 28}, {1, 0, 30, 0}, {1, 0, 2, 0}, {10, 0, 1, 0}};
        for (int[] row : rows) {
            DripCups x = Checks.cave("cup " + row[0] + " " + row[1] + " 0;cup 9 0 0;pipe 0 1;");
            String text = "crack " + row[0] + " with " + row[1] + " to " + row[2];
            CHECKS.due(text, row[0], () -> x.crack(0, row[2]));
            CHECKS.due(text + ": holds", row[2], () -> x.cup(0, 0));
            CHECKS.due(text + ": fill", row[3], () -> x.cup(0, 1));
            CHECKS.due(text + ": nothing tips", 0, () -> x.count(4));
            CHECKS.due(text + ": nothing comes below", 0, () -> x.cup(1, 1));
            CHECKS.due(text + ": undone", 0, () -> x.undo());
            CHECKS.due(text + ": holds as ahead", row[0], () -> x.cup(0, 0));
            CHECKS.due(text + ": fill as ahead", row[1], () -> x.cup(0, 1));
        }
    }

    // ---- promise 12 ----

    /** "NONE: there is none." */
    private static void undoNone() {
        CHECKS.refused("undo of a new one", -1, -1, DripCups::new, x -> x.undo());
        CHECKS.refused("undo without acts", -1, -1, () -> Checks.cave("cup 3 1 1;cup 3 0 0;"), x -> x.undo());
        Checks.Made undone = () -> {
            DripCups x = Checks.used();
            x.undo();
            x.undo();
            x.undo();
            return x;
        };
        CHECKS.refused("undo behind all", -1, -1, undone, x -> x.undo());
        DripCups heard = Checks.cave("cup 3 1 1;");
        heard.hear(0, 1, true);
        heard.image();
        CHECKS.due("what is heard and images are no acts", -1, () -> heard.undo());
        CHECKS.due("it stays heard", 1, () -> heard.count(8));
    }

    /** "The last ACT is UNDONE: how many are left", "They are UNDONE, the last one first." */
    private static void undoEach() {
        String text = "cup 5 2 3;cup 4 0 1;cup 7 6 0;pipe 0 1 2;leaks hour=1;";
        Checks.CallOn[] acts = {x -> x.hours(3), x -> x.lead(0, 2) ? 1 : 0, x -> x.plug(0, true) ? 1 : 0, x -> x.pour(0, 23),
            x -> x.crack(2, 2), x -> x.plug(0, false) ? 1 : 0, x -> x.lead(0, -1) ? 1 : 0};
        for (int n = acts.length; n >= 1; n--) {
            DripCups x = Checks.cave(text);
            DripCups without = Checks.cave(text);
            for (int i = 0; i < n; i++) {
                acts[i].answer(x);
                if (i < n - 1) {
                    acts[i].answer(without);
                }
            }
            int left = n - 1;
            CHECKS.due("undo the act " + n, left, () -> x.undo());
            CHECKS.same("as without the act " + n, x, without);
        }
    }

    /** "(at most 40 are kept, the latest ones)" */
    private static void fortyActs() {
        DripCups x = Checks.cave("cup 30 0 0;");
        for (int act = 1; act <= 42; act++) {
            int kept = Math.min(act, 40);
            int drops = act;
            CHECKS.due("hour " + act, drops, () -> x.hours(1));
            CHECKS.due("kept behind " + act, kept, () -> x.count(7));
        }
        for (int left = 39; left >= 0; left--) {
            int n = left;
            CHECKS.due("undo to " + n, n, () -> x.undo());
            CHECKS.due("the hour then", n + 2, () -> x.count(1));
        }
        CHECKS.due("no more", -1, () -> x.undo());
        CHECKS.due("the first two stay", 2, () -> x.count(1));
        DripCups y = Checks.cave("cup 30 0 0;");
        for (int i = 0; i < 40; i++) {
            y.hours(1);
        }
        CHECKS.due("a refused act puts none out", -1, () -> y.hours(0));
        for (int i = 0; i < 40; i++) {
            y.undo();
        }
        CHECKS.due("all forty are undone", 0, () -> y.count(1));
        CHECKS.due("a new act is kept then", 1, () -> y.hours(1));
        CHECKS.due("and undone", 0, () -> y.undo());
    }

    // ---- promises 42 and 43 ----

    /** "False: there is none." */
    private static void imageNone() {
        CHECKS.refused("restore of a new one", -1, 0, DripCups::new, x -> x.restore() ? 1 : 0);
        Checks.Made made = () -> {
            DripCups x = Checks.cave("cup 3 1 1;cup 3 0 0;");
            x.hours(2);
            x.hear(0, 1, true);
            return x;
        };
        CHECKS.refused("restore without", -1, 0, made, x -> x.restore() ? 1 : 0);
        DripCups x = Checks.cave("cup 3 1 1;");
        x.image();
        Checks.feed(x, "cup 3 1 1;");
        CHECKS.due("cave that throws", Checks.ILLEGAL, () -> x.cave(21));
        CHECKS.is("the image stays", true, () -> x.restore());
        Checks.read(x, "?");
        CHECKS.is("a text with a fault: it stays", true, () -> x.restore());
        Checks.read(x, "cup 3 1 1;");
        CHECKS.is("a good text: it is gone", false, () -> x.restore());
        x.image();
        CHECKS.is("another one", true, () -> x.restore());
        DripCups empty = new DripCups();
        empty.image();
        empty.hours(3);
        CHECKS.is("an image without cups", true, () -> empty.restore());
        CHECKS.due("its hour", 0, () -> empty.count(1));
    }

    /** "The HOUR, FILL, HOLDS, INTO which drops go, whose turn it is, how often .., what is PLUGGED, ACTS and .. HEARD" */
    private static void imageKeepsAll() {
        Checks.CallOn[] changes = {x -> x.hours(7), x -> x.pour(0, 13), x -> x.pour(2, 50), x -> x.crack(0, 30),
            x -> x.crack(2, 1), x -> x.lead(0, -1) ? 1 : 0, x -> x.lead(1, 2) ? 1 : 0, x -> x.plug(0, true) ? 1 : 0,
            x -> x.plug(1, false) ? 1 : 0, x -> x.undo(), x -> x.hear(0, 40, true)};
        for (int i = 0; i < changes.length; i++) {
            DripCups x = Checks.used();
            x.image();
            changes[i].answer(x);
            CHECKS.is("restore behind change " + i, true, () -> x.restore());
            DripCups due = Checks.used();
            due.image();
            CHECKS.same("all is as the image behind change " + i, x, due);
        }
        DripCups forgot = Checks.used();
        forgot.image();
        forgot.forget();
        forgot.hear(1, 1, true);
        forgot.hear(1, 2, true);
        forgot.hear(1, 3, true);
        forgot.restore();
        DripCups due = Checks.used();
        due.image();
        CHECKS.same("what is heard is as the image", forgot, due);
        DripCups x = Checks.cave("cup 2 0 1;cup 2 0 0;cup 2 0 0;pipe 0 1;");
        x.hear(2, 4, true);
        x.image();
        x.forget();
        x.hear(1, 8, false);
        CHECKS.due("heard then: two ways", 2, () -> x.led(0));
        x.restore();
        CHECKS.due("heard of the image: how many", 1, () -> x.count(8));
        CHECKS.due("heard of the image: into 2", 2, () -> x.led(1));
        CHECKS.due("heard of the image: that alone", 1, () -> x.led(0));
        CHECKS.due("heard of the image: not without", 0, () -> x.led(2));
    }

    /** "in place of another one" */
    private static void imageInPlaceOfAnother() {
        DripCups x = Checks.cave("cup 9 0 1;");
        x.hours(1);
        x.image();
        x.hours(1);
        x.image();
        x.hours(1);
        CHECKS.is("restore", true, () -> x.restore());
        CHECKS.due("the second one", 2, () -> x.count(1));
        CHECKS.is("restore again", true, () -> x.restore());
        CHECKS.due("the second one again", 2, () -> x.count(1));
        CHECKS.due("its acts", 1, () -> x.undo());
        CHECKS.due("its acts, undone", 1, () -> x.count(1));
    }

    /** What is done behind image(), or behind restore(), doesn't change the image. */
    private static void imageIsACopy() {
        DripCups x = Checks.used();
        x.image();
        for (int i = 0; i < 3; i++) {
            x.undo();
            x.undo();
            x.undo();
            x.hours(5);
            x.forget();
            x.hear(0, 9, true);
            x.crack(0, 9);
            x.plug(2, true);
            x.restore();
        }
        DripCups due = Checks.used();
        due.image();
        CHECKS.same("as ahead of all that", x, due);
    }

    /** Forty acts and eight things heard are kept too. */
    private static void imageOfFull() {
        DripCups x = Checks.cave("cup 30 0 0;");
        for (int i = 0; i < 45; i++) {
            x.hours(1);
        }
        for (int i = 1; i <= 8; i++) {
            x.hear(0, i, false);
        }
        x.image();
        for (int i = 0; i < 40; i++) {
            x.undo();
        }
        x.forget();
        x.hours(20);
        x.restore();
        CHECKS.due("acts", 40, () -> x.count(7));
        CHECKS.due("heard", 8, () -> x.count(8));
        CHECKS.due("a ninth is refused", -1, () -> x.hear(0, 9, false));
        CHECKS.due("the hour", 45, () -> x.count(1));
        for (int i = 0; i < 40; i++) {
            x.undo();
        }
        CHECKS.due("all forty undone", 5, () -> x.count(1));
    }
}
