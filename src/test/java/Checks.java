import java.util.ArrayList;
import java.util.List;
import java.util.NoSuchElementException;

/** Counts answers that are not as due; what a call throws counts as its answer. */
final class Checks {
    /** Answers that no call can give stand for what it throws. */
    static final int NO_SUCH = Integer.MIN_VALUE + 1;
    static final int ILLEGAL = Integer.MIN_VALUE + 2;

    interface Call {
        int answer();
    }

    interface Act {
        boolean answer();
    }

    interface Made {
        DripCups make();
    }

    interface CallOn {
        int answer(DripCups x);
    }

    private int wrong = 0;
    private int many = 0;

    static int of(Call call) {
        try {
            return call.answer();
        } catch (NoSuchElementException e) {
            return NO_SUCH;
        } catch (IllegalArgumentException e) {
            return ILLEGAL;
        }
    }

    void due(String what, int want, Call call) {
        many++;
        int got;
        try {
            got = of(call);
        } catch (RuntimeException e) {
            wrong++;
            System.out.println(what + " threw " + e);
            return;
        }
        if (got != want) {
            wrong++;
            System.out.println(what + " answered " + name(got) + ", due is " + name(want));
        }
    }

    void is(String what, boolean want, Act act) {
        due(what, want ? 1 : 0, () -> act.answer() ? 1 : 0);
    }

    /**
     * A call that does nothing: what it answers, which STATUS counts it (-1: none),
     * and that all is as on an object on which it was not made.
     */
    void refused(String what, int status, int want, Made made, CallOn call) {
        DripCups tried = made.make();
        DripCups left = made.make();
        due(what, want, () -> call.answer(tried));
        for (int i = 0; i < 3; i++) {
            int which = i;
            due(what + ": status " + i, left.count(10 + i) + (i == status ? 1 : 0), () -> tried.count(10 + which));
        }
        due(what + ": the tape", left.count(9), () -> tried.count(9));
        due(what + ": the fault's place", left.fault(), () -> tried.fault());
        same(what, tried, left);
    }

    /** That both are alike in all but tape, place of the fault and STATUS; they are used up by this. */
    void same(String what, DripCups one, DripCups two) {
        many++;
        List<Integer> is = history(one);
        List<Integer> should = history(two);
        if (!is.equals(should)) {
            wrong++;
            System.out.println(what + ": not all is the same: " + is + ", due is " + should);
        }
    }

    /** What is now, what undo() brings back, and both again behind restore(). */
    private static List<Integer> history(DripCups x) {
        List<Integer> all = new ArrayList<>();
        for (int i = 0; i < 2; i++) {
            look(x, all);
            for (int what = 0; what < 3; what++) {
                all.add(x.led(what));
            }
            int left = x.undo();
            for (int act = 0; act < 40 && left != DripCups.NONE; act++) {
                all.add(left);
                look(x, all);
                left = x.undo();
            }
            all.add(x.restore() ? 1 : 0);
        }
        return all;
    }

    private static void look(DripCups x, List<Integer> all) {
        for (int what = 0; what < 9; what++) {
            all.add(x.count(what));
        }
        int cups = x.count(0);
        for (int cup = 0; cup < cups; cup++) {
            for (int what = 0; what < 9; what++) {
                all.add(x.cup(cup, what));
            }
        }
    }

    /**
     * Three cups behind three acts, with an image ahead of the last one, other things heard then and now,
     * a text that was refused (its fault was at 2), and twenty bytes on the tape.
     */
    static DripCups used() {
        DripCups x = cave("cup 5 2 3;cup 4 0 1;cup 7 6 0;pipe 0 1 2;leaks hour=1;frost cup=1 and hour=0;");
        x.hear(1, 2, true);
        x.hours(2);
        x.pour(0, 3);
        x.image();
        x.forget();
        x.hear(2, 1, false);
        x.hear(0, 3, true);
        x.plug(1, true);
        read(x, "  ?");
        feed(x, "cup 1 0 0;");
        return x;
    }

    static String name(int answer) {
        return answer == NO_SUCH ? "NoSuchElementException" : answer == ILLEGAL ? "IllegalArgumentException" : "" + answer;
    }

    void end() {
        System.out.println(many + " answers, " + wrong + " wrong");
        if (wrong > 0) {
            System.exit(1);
        }
    }

    boolean failed() {
        return wrong > 0;
    }

    /** Feeds a text, filled up with blanks to a multiple of twenty bytes. */
    static void feed(DripCups x, String text) {
        for (int at = 0; at < text.length(); at += 20) {
            int[] fives = new int[5];
            for (int i = 0; i < 20; i++) {
                int b = at + i < text.length() ? text.charAt(at + i) & 0xff : 32;
                fives[i / 4] = fives[i / 4] << 8 | b;
            }
            x.feed(fives[0], fives[1], fives[2], fives[3], fives[4]);
        }
    }

    static int read(DripCups x, String text) {
        feed(x, text);
        return x.cave(text.length());
    }

    static DripCups cave(String text) {
        DripCups x = new DripCups();
        if (read(x, text) != 0) {
            throw new IllegalStateException("the test's own text is wrong: " + text);
        }
        return x;
    }
}
