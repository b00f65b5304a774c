import java.util.NoSuchElementException;

/** Counts answers that are not as due; what a call throws counts as its answer. */
final class Checks {
    /** Answers that no call can give stand for what it throws. */
    static final int NO_SUCH = Integer.MIN_VALUE + 1;
    static final int ILLEGAL = Integer.MIN_VALUE + 2;

    interface Call {
        int answer();
    }

    interface Act {
        boolean answer();
    }

    private int wrong = 0;
    private int many = 0;

    static int of(Call call) {
        try {
            return call.answer();
        } catch (NoSuchElementException e) {
            return NO_SUCH;
        } catch (IllegalArgumentException e) {
            return ILLEGAL;
        }
    }

    void due(String what, int want, Call call) {
        many++;
        int got;
        try {
            got = of(call);
        } catch (RuntimeException e) {
            wrong++;
            System.out.println(what + " threw " + e);
            return;
        }
        if (got != want) {
            wrong++;
            System.out.println(what + " answered " + name(got) + ", due is " + name(want));
        }
    }

    void is(String what, boolean want, Act act) {
        due(what, want ? 1 : 0, () -> act.answer() ? 1 : 0);
    }

    static String name(int answer) {
        return answer == NO_SUCH ? "NoSuchElementException" : answer == ILLEGAL ? "IllegalArgumentException" : "" + answer;
    }

    void end() {
        System.out.println(many + " answers, " + wrong + " wrong");
        if (wrong > 0) {
            System.exit(1);
        }
    }

    boolean failed() {
        return wrong > 0;
    }

    /** Feeds a text, filled up with blanks to a multiple of twenty bytes. */
    static void feed(DripCups x, String text) {
        for (int at = 0; at < text.length(); at += 20) {
            int[] fives = new int[5];
            for (int i = 0; i < 20; i++) {
                int b = at + i < text.length() ? text.charAt(at + i) & 0xff : 32;
                fives[i / 4] = fives[i / 4] << 8 | b;
            }
            x.feed(fives[0], fives[1], fives[2], fives[3], fives[4]);
        }
    }

    static int read(DripCups x, String text) {
        feed(x, text);
        return x.cave(text.length());
    }

    static DripCups cave(String text) {
        DripCups x = new DripCups();
        if (read(x, text) != 0) {
            throw new IllegalStateException("the test's own text is wrong: " + text);
        }
        return x;
    }
}
