/** The edges that the document names for an EXPR's value, for LEAKS and FROST, and for what an HOUR does. */
public final class RuleEdgesTest {
    private static final Checks CHECKS = new Checks();
    /** 2 to the power of 31 wraps to the least int. */
    private static final String LEAST = "8192*8192*32";

    public static void main(String[] args) {
        fromTheLeft();
        wraps();
        division();
        tests();
        notAndOr();
        values();
        frost();
        leaks();
        whenRulesAreAsked();
        full();
        intoTheCupBelow();
        byTurns();
        CHECKS.end();
    }

    /** What a rule gives, from 0 to 29, as the drops that a cup with 29 of 30 drops loses. */
    private static void gives(int drops, String expr) {
        DripCups x = Checks.cave("cup 30 29 0;leaks " + expr + ";");
        CHECKS.due("leaks " + expr, 29 - drops, () -> x.then(0, 1, 0));
    }

    private static void holds(String expr) {
        gives(1, "(" + expr + ")*1");
        gives(0, "(not(" + expr + "))*1");
    }

    /** "From the left": PRODUCT ahead of SUM, SUM ahead of a test, that ahead of not, and, or. */
    private static void fromTheLeft() {
        gives(4, "9-3-2");
        gives(8, "9-3+2");
        gives(3, "24/4/2");
        gives(12, "24/4*2");
        gives(2, "3*5/7");
        gives(7, "1+2*3");
        gives(5, "1*2+3");
        gives(0, "9-8/2*3");
        gives(1, "2<1+2");
        gives(1, "1+2=3");
        gives(1, "not 2<1");
        gives(0, "not 1+0");
        gives(0, "not 0 and 0");
        gives(1, "not 1 or 1");
        gives(1, "1 or 0 and 0");
        gives(0, "(1 or 0) and 0");
        gives(1, "0 and 0 or 1");
        gives(1, "2<3 and 3<4");
    }

    /** "ints that wrap" */
    private static void wraps() {
        holds(LEAST + "<0");
        holds("0<" + LEAST + "-1");
        holds(LEAST + "-1+1<0");
        holds("8192*8192*64=0");
        holds("8192*8192*16+8192*8192*16<0");
        holds("0-" + LEAST + "<0");
        holds("0-" + LEAST + "=" + LEAST);
        holds("9999*9999*43=4172*1000+747");
    }

    /** "/ cut down to 0, by 0 gives 0" */
    private static void division() {
        gives(3, "7/2");
        gives(0, "1/2");
        gives(7, "10+(0-7)/2");
        gives(7, "10+7/(0-2)");
        gives(13, "10+(0-7)/(0-2)");
        gives(10, "10+(0-1)/2");
        gives(0, "7/0");
        gives(5, "5+7/0");
        gives(0, "0/0");
        gives(0, "7/(3-3)");
        gives(0, "7*2/0*3");
        gives(10, "10+(0-7)/0");
        holds(LEAST + "/(0-1)=" + LEAST);
        holds("(" + LEAST + "-1)/(0-1)=" + LEAST + "+1");
    }

    /** "tests .. are 1 or 0": at what is alike, and at one more and one less */
    private static void tests() {
        gives(1, "4<5");
        gives(0, "5<5");
        gives(0, "6<5");
        gives(0, "4=5");
        gives(1, "5=5");
        gives(0, "6=5");
        gives(1, "0-1<0");
        gives(0, "0<0-1");
        gives(1, LEAST + "<" + LEAST + "-1");
        gives(0, LEAST + "-1<" + LEAST);
    }

    /** "not, and, or are 1 or 0 (what isn't 0 holds)" */
    private static void notAndOr() {
        String[] some = {"0", "1", "2", "(0-1)", LEAST, "29"};
        for (int a = 0; a < some.length; a++) {
            gives(a == 0 ? 1 : 0, "not " + some[a]);
            gives(a == 0 ? 0 : 1, "not not " + some[a]);
            gives(a == 0 ? 1 : 0, "not not not not not " + some[a]);
            gives(a == 0 ? 0 : 1, "not not not not not not " + some[a]);
            for (int b = 0; b < some.length; b++) {
                gives(a > 0 || b > 0 ? 1 : 0, some[a] + " or " + some[b]);
                gives(a > 0 && b > 0 ? 1 : 0, some[a] + " and " + some[b]);
            }
        }
        gives(5, "5");
        gives(5, "(5)");
        gives(1, "0 or 0 or 7");
        gives(0, "7 and 7 and 0");
    }

    /** "VALUES of a CUP: 'fill', 'holds', 'spring', 'tips' (how often it has tipped), 'cup' (its number), 'hour'" */
    private static void values() {
        // leaks are asked behind the tipping of all cups, by what each is then
        DripCups x = Checks.cave("cup 30 20 3;cup 30 25 4;leaks fill/5;");
        CHECKS.due("fill with its spring's drops", 19, () -> x.then(0, 1, 0));
        CHECKS.due("fill of each", 24, () -> x.then(1, 1, 0));
        DripCups y = Checks.cave("cup 30 20 0;cup 20 19 0;leaks holds/10;");
        CHECKS.due("holds of the first", 17, () -> y.then(0, 1, 0));
        CHECKS.due("holds of the second", 17, () -> y.then(1, 1, 0));
        y.crack(0, 29);
        CHECKS.due("holds, cracked", 18, () -> y.then(0, 1, 0));
        DripCups z = Checks.cave("cup 30 20 3;cup 20 19 0;leaks spring;");
        CHECKS.due("spring of the first", 20, () -> z.then(0, 1, 0));
        CHECKS.due("no spring", 19, () -> z.then(1, 1, 0));
        DripCups t = Checks.cave("cup 4 0 9;cup 9 8 0;leaks tips;");
        CHECKS.due("tips, those of this hour too", 0, () -> t.then(0, 1, 0));
        CHECKS.due("no tips", 8, () -> t.then(1, 1, 0));
        t.pour(1, 16);
        CHECKS.due("tips of a pour", 4, () -> t.then(1, 1, 0));
        DripCups c = Checks.cave("cup 9 8 0;".repeat(9) + "leaks cup;");
        for (int cup = 0; cup < 9; cup++) {
            int n = cup;
            CHECKS.due("cup " + n, 8 - n, () -> c.then(n, 1, 0));
        }
        DripCups h = Checks.cave("cup 30 29 0;leaks hour;");
        int[] due = {29, 29, 28, 26, 23};
        for (int hour = 0; hour < due.length; hour++) {
            int n = hour;
            CHECKS.due("behind hour " + n, due[n], () -> h.then(0, n, 0));
        }
        h.hours(3);
        CHECKS.due("the hour of the cave, not from now on", 23, () -> h.then(0, 1, 0));
    }

    /** "not if that is PLUGGED, or FROST gives more than 0; without FROST it never freezes" */
    private static void frost() {
        String[] runs = {"0", "0-1", "0-9999", LEAST};
        String[] rests = {"1", "2", "9999", LEAST + "-1"};
        for (String expr : runs) {
            DripCups x = Checks.cave("cup 30 5 3;frost " + expr + ";");
            CHECKS.due("runs by " + expr, 8, () -> x.then(0, 1, 0));
        }
        for (String expr : rests) {
            DripCups x = Checks.cave("cup 30 5 3;frost " + expr + ";");
            CHECKS.due("rests by " + expr, 5, () -> x.then(0, 1, 0));
        }
        DripCups without = Checks.cave("cup 30 5 3;");
        CHECKS.due("without", 8, () -> without.then(0, 1, 0));
        without.plug(0, true);
        CHECKS.due("plugged", 5, () -> without.then(0, 1, 0));
        DripCups both = Checks.cave("cup 30 5 3;frost 1;");
        both.plug(0, true);
        CHECKS.due("plugged and frozen", 5, () -> both.then(0, 1, 0));
        DripCups above = Checks.cave("cup 1 0 2;cup 9 0 3;pipe 0 1;frost cup;");
        CHECKS.due("a frozen spring: what comes from above comes", 2, () -> above.then(1, 1, 0));
    }

    /** "FILL is less by what LEAKS gives, kept to 0 to FILL (without it 0)" */
    private static void leaks() {
        String[] exprs = {"0-1", LEAST, "0", "1", "4", "5", "6", "9999", LEAST + "-1", "fill", "fill+1", "fill-1"};
        int[] left = {5, 5, 5, 4, 1, 0, 0, 0, 0, 0, 0, 1};
        for (int i = 0; i < exprs.length; i++) {
            int due = left[i];
            DripCups x = Checks.cave("cup 30 5 0;leaks " + exprs[i] + ";");
            CHECKS.due("left by " + exprs[i], due, () -> x.then(0, 1, 0));
            CHECKS.due("lost by " + exprs[i], 5 - due, () -> x.later(1, 2));
        }
        DripCups none = Checks.cave("cup 30 5 0;");
        CHECKS.due("without", 5, () -> none.then(0, 1, 0));
        DripCups empty = Checks.cave("cup 30 0 0;leaks 3;");
        CHECKS.due("of an empty cup", 0, () -> empty.then(0, 200, 0));
        CHECKS.due("nothing is lost", 0, () -> empty.later(200, 2));
    }

    /** "CUP by CUP: .. Then CUP by CUP: .. The HOUR is one more then." */
    private static void whenRulesAreAsked() {
        DripCups x = Checks.cave("cup 9 0 1;leaks hour=1;");
        CHECKS.due("leaks: the first hour is 0", 1, () -> x.then(0, 1, 0));
        CHECKS.due("leaks: the second is 1", 1, () -> x.then(0, 2, 0));
        CHECKS.due("leaks: the third is 2", 2, () -> x.then(0, 3, 0));
        DripCups y = Checks.cave("cup 9 0 1;frost hour=1;");
        CHECKS.due("frost: the first hour is 0", 1, () -> y.then(0, 1, 0));
        CHECKS.due("frost: the second is 1", 1, () -> y.then(0, 2, 0));
        CHECKS.due("frost: the third is 2", 2, () -> y.then(0, 3, 0));
        // it leaks behind the tipping: full with its spring it tips first
        DripCups z = Checks.cave("cup 3 2 1;leaks 9;");
        CHECKS.due("it tips ahead of its leak", 1, () -> z.then(0, 1, 1));
        CHECKS.due("and never more", 1, () -> z.then(0, 200, 1));
        // what is in it ahead of its spring's drops is asked by frost
        DripCups f = Checks.cave("cup 9 2 3;frost 2<fill;");
        CHECKS.due("frost: fill 2", 5, () -> f.then(0, 1, 0));
        CHECKS.due("frost: fill 5", 5, () -> f.then(0, 2, 0));
        // the cup above has tipped by then, and its tips count for its own frost only from the next hour on
        DripCups t = Checks.cave("cup 1 0 1;frost tips;");
        CHECKS.due("frost: no tips yet, then one", 1, () -> t.then(0, 9, 1));
    }

    /** "it TIPS as many times as its FILL is HOLDS, and keeps what is over" */
    private static void full() {
        int[][] rows = {{10, 3, 6, 0, 9}, {10, 3, 7, 1, 0}, {10, 3, 8, 1, 1}, {10, 3, 16, 1, 9}, {10, 3, 17, 2, 0},
            {1, 0, 0, 0, 0}, {1, 0, 1, 1, 0}, {1, 0, 20, 20, 0}, {30, 29, 0, 0, 29}, {30, 29, 1, 1, 0}, {30, 29, 20, 1, 19},
            {2, 1, 20, 10, 1}};
        for (int[] row : rows) {
            DripCups x = Checks.cave("cup " + row[0] + " " + row[1] + " " + row[2] + ";");
            String text = row[1] + " of " + row[0] + " and " + row[2];
            CHECKS.due(text + ": tips", row[3], () -> x.then(0, 1, 1));
            CHECKS.due(text + ": is over", row[4], () -> x.then(0, 1, 0));
        }
    }

    /** "by what has come into it in this HOUR", "for each time one drop goes INTO the CUP below" */
    private static void intoTheCupBelow() {
        DripCups x = Checks.cave("cup 2 0 7;cup 9 0 0;pipe 0 1;");
        CHECKS.due("three times, three drops", 3, () -> x.then(1, 1, 0));
        DripCups chain = Checks.cave("cup 1 0 1;" + "cup 1 0 0;".repeat(8)
            + "pipe 0 1;pipe 1 2;pipe 2 3;pipe 3 4;pipe 4 5;pipe 5 6;pipe 6 7;pipe 7 8;");
        CHECKS.due("through all nine in one hour", 511, () -> chain.tipping(1));
        CHECKS.due("one on the floor", 1, () -> chain.later(1, 2));
        DripCups both = Checks.cave("cup 1 0 2;cup 5 0 3;pipe 0 1;");
        CHECKS.due("from above and from its spring it is full", 1, () -> both.then(1, 1, 1));
        CHECKS.due("and empty then", 0, () -> both.then(1, 1, 0));
    }

    /** "of two the drops go into the first one, then into the second one, and so on by turns, from HOUR to HOUR" */
    private static void byTurns() {
        int[] toFirst = {0, 1, 1, 2, 2, 3, 3};
        for (int drops = 0; drops <= 6; drops++) {
            DripCups x = Checks.cave("cup 1 0 " + drops + ";cup 9 0 0;cup 9 0 0;pipe 0 2 1;");
            int first = toFirst[drops];
            int second = drops - first;
            x.hours(1);
            CHECKS.due(drops + " drops: the first one, which is told first", first, () -> x.cup(2, 1));
            CHECKS.due(drops + " drops: the second one", second, () -> x.cup(1, 1));
            CHECKS.due(drops + " drops: whose turn", first > second ? 1 : 2, () -> x.cup(0, 3));
        }
        DripCups y = Checks.cave("cup 1 0 1;cup 9 0 0;cup 9 0 0;pipe 0 1 2;");
        for (int hour = 1; hour <= 6; hour++) {
            int h = hour;
            CHECKS.due("hour " + h + ": the first one", toFirst[h], () -> y.then(1, h, 0));
            CHECKS.due("hour " + h + ": the second one", h - toFirst[h], () -> y.then(2, h, 0));
        }
        DripCups p = Checks.cave("cup 1 0 1;cup 9 0 0;cup 9 0 0;pipe 0 1 2;");
        p.hours(1);
        p.pour(0, 2);
        CHECKS.due("a pour goes on by turns: the first one", 2, () -> p.cup(1, 1));
        CHECKS.due("a pour goes on by turns: the second one", 1, () -> p.cup(2, 1));
        CHECKS.due("the turn of the second one", 2, () -> p.cup(0, 3));
        p.plug(0, true);
        p.hours(3);
        CHECKS.due("the turn stays where nothing tips", 2, () -> p.cup(0, 3));
    }
}
