/** Promises 25 to 31: what is heard, where to listen, cold, the game, years. */
public final class GuessPromisesTest {
    private static final Checks CHECKS = new Checks();
    /** 0 tips in hours 2, 4, 6 .., 1 in 4, 8 .., 2 never; it may be led as 2, 9 or 12. */
    private static final String CHAIN = "cup 2 0 1;cup 2 0 0;cup 2 0 0;pipe 0 1;";
    private static final String FOUR = "cup 4 1 3;cup 2 0 0;cup 3 2 1;cup 5 0 0;pipe 0 1 2;pipe 1 3;pipe 2 3;";

    public static void main(String[] args) {
        hear();
        forget();
        led();
        listen();
        cold();
        game();
        years();
        CHECKS.end();
    }

    private static void hear() {
        DripCups x = Checks.cave(CHAIN);
        CHECKS.due("hour 0", -1, () -> x.hear(0, 0, true));
        CHECKS.due("hour 41", -1, () -> x.hear(0, 41, true));
        CHECKS.due("refused", 2, () -> x.count(12));
        CHECKS.due("no cup, ahead of the hour", Checks.NO_SUCH, () -> x.hear(3, 0, true));
        CHECKS.due("no cup below", Checks.NO_SUCH, () -> x.hear(-1, 1, true));
        CHECKS.due("an exception isn't counted", 2, () -> x.count(12));
        for (int i = 1; i <= 8; i++) {
            int many = i;
            CHECKS.due("heard " + i, many, () -> x.hear(0, 40, true));
        }
        CHECKS.due("a ninth", -1, () -> x.hear(0, 1, true));
        CHECKS.due("eight are heard", 8, () -> x.count(8));
        CHECKS.due("refused then", 3, () -> x.count(12));
        CHECKS.due("no act", 0, () -> x.count(7));
    }

    private static void forget() {
        DripCups x = Checks.cave(CHAIN);
        x.hear(0, 1, true);
        CHECKS.due("it isn't so", 0, () -> x.led(2));
        x.forget();
        CHECKS.due("nothing is heard", 0, () -> x.count(8));
        CHECKS.due("so it is so", 1, () -> x.led(2));
        CHECKS.due("heard anew", 1, () -> x.hear(0, 2, true));
        CHECKS.due("that is so", 1, () -> x.led(2));
    }

    private static void led() {
        DripCups x = Checks.cave(CHAIN);
        CHECKS.due("nothing heard: all", 3, () -> x.led(0));
        CHECKS.due("the first", 2, () -> x.led(1));
        CHECKS.due("without", 1, () -> x.led(2));
        x.hear(2, 4, true);
        CHECKS.due("only into 2", 1, () -> x.led(0));
        CHECKS.due("that one", 2, () -> x.led(1));
        CHECKS.due("not without", 0, () -> x.led(2));
        x.forget();
        x.hear(2, 8, true);
        x.hear(1, 4, true);
        CHECKS.due("only 1 into 2", 12, () -> x.led(1));
        x.forget();
        x.hear(1, 40, false);
        x.hear(2, 40, false);
        CHECKS.due("only on the floor", 9, () -> x.led(1));
        CHECKS.due("that alone", 1, () -> x.led(0));
        x.hear(0, 40, false);
        CHECKS.due("none", 0, () -> x.led(0));
        CHECKS.due("no first", -1, () -> x.led(1));
        CHECKS.due("no what", Checks.NO_SUCH, () -> x.led(3));
        CHECKS.due("no what below", Checks.NO_SUCH, () -> x.led(-1));
        DripCups y = Checks.cave(FOUR);
        CHECKS.due("of two cups each one counts", 7, () -> y.led(0));
        CHECKS.due("the first one of them", 1, () -> y.led(1));
        y.lead(0, 1);
        CHECKS.due("led just there it doesn't", 6, () -> y.led(0));
        CHECKS.due("so the next one is first", 2, () -> y.led(1));
        DripCups z = Checks.cave("cup 1 0 1;cup 9 0 0;pipe 0 1;leaks hour=1 and 9;frost hour=2;");
        z.hear(0, 3, false);
        CHECKS.due("frost is asked", 1, () -> z.led(2));
    }

    private static void listen() {
        DripCups x = Checks.cave(CHAIN);
        CHECKS.due("the hour", 4, () -> x.listen(0));
        CHECKS.due("unlike ones", 3, () -> x.listen(1));
        x.hear(2, 4, false);
        CHECKS.due("two are left", 2, () -> x.listen(1));
        CHECKS.due("the first hour of these", 4, () -> x.listen(0));
        x.hear(1, 4, true);
        CHECKS.due("one is left: hour 1", 1, () -> x.listen(0));
        CHECKS.due("one is left: one", 1, () -> x.listen(1));
        x.hear(1, 1, true);
        CHECKS.due("none", -1, () -> x.listen(0));
        CHECKS.due("none are unlike", 0, () -> x.listen(1));
        CHECKS.due("no what", Checks.NO_SUCH, () -> x.listen(2));
        CHECKS.due("no what below", Checks.NO_SUCH, () -> x.listen(-1));
        DripCups y = Checks.cave("cup 20 0 1;cup 2 0 0;cup 1 0 0;pipe 0 1;");
        // 0 into 2, on the floor, 1 into 2: only in hours 20 and 40 does a drop go
        CHECKS.due("in the 40th: three", 3, () -> y.listen(1));
        CHECKS.due("the 40th", 40, () -> y.listen(0));
        DripCups nine = Checks.cave("cup 1 0 1;" + "cup 1 0 0;".repeat(8));
        CHECKS.due("of nine: 0 into each other one, else 0 alone", 9, () -> nine.listen(1));
        CHECKS.due("in the first hour", 1, () -> nine.listen(0));
        CHECKS.due("of nine all but the floor", 36, () -> nine.led(0));
        nine.hear(8, 40, true);
        CHECKS.due("only into the ninth", 8, () -> nine.led(1));
    }

    private static void cold() {
        DripCups x = Checks.cave("cup 2 0 1;cup 1 0 0;pipe 0 1;cup 30 0 20;");
        CHECKS.due("one hour is not enough", 0, () -> x.cold(0, 1, 0));
        CHECKS.due("both must be warm", 25, () -> x.cold(0, 2, 5));
        CHECKS.due("by 7 and 7 tenths", 49, () -> x.cold(0, 2, 3));
        CHECKS.due("two of three", 500, () -> x.cold(0, 3, 5));
        CHECKS.due("the cup below", 500, () -> x.cold(1, 3, 5));
        CHECKS.due("surely", 100000, () -> x.cold(0, 5, 0));
        CHECKS.due("never", 0, () -> x.cold(0, 5, 10));
        // two or more warm hours of five, by 1 tenth: 100000 less 59049 and 32805
        CHECKS.due("two of five", 8146, () -> x.cold(0, 5, 9));
        CHECKS.due("no cup", Checks.NO_SUCH, () -> x.cold(3, 0, 11));
        CHECKS.due("hours 0", Checks.ILLEGAL, () -> x.cold(0, 0, 5));
        CHECKS.due("hours 6", Checks.ILLEGAL, () -> x.cold(0, 6, 5));
        CHECKS.due("tenths -1", Checks.ILLEGAL, () -> x.cold(0, 1, -1));
        CHECKS.due("tenths 11", Checks.ILLEGAL, () -> x.cold(0, 1, 11));
        x.plug(0, true);
        CHECKS.due("plugged", 0, () -> x.cold(0, 5, 0));
        DripCups y = Checks.cave("cup 2 0 1;frost 1;");
        CHECKS.due("frost isn't asked", 100, () -> y.cold(0, 2, 0));
        DripCups z = Checks.cave("cup 2 0 1;leaks 1;");
        CHECKS.due("leaks are", 0, () -> z.cold(0, 5, 0));
    }

    private static void game() {
        DripCups x = Checks.cave(FOUR);
        CHECKS.due("one rests", 1, () -> x.game(0, 2, 0));
        CHECKS.due("neither plugs", 0, () -> x.game(0, 2, 1));
        CHECKS.due("both are one", Checks.ILLEGAL, () -> x.game(1, 1, 0));
        CHECKS.due("no cup", Checks.NO_SUCH, () -> x.game(4, 4, 0));
        CHECKS.due("no other", Checks.NO_SUCH, () -> x.game(0, -1, 0));
        CHECKS.due("no what", Checks.NO_SUCH, () -> x.game(1, 1, 2));
        CHECKS.due("no what below", Checks.NO_SUCH, () -> x.game(1, 2, -1));
        // cup 1 gets 2 drops an hour from above; with its spring fill is 3 and all leaks
        String leaky = "cup 1 0 2;cup 4 0 1;cup 1 0 1;pipe 0 1;leaks 9*(fill=3);";
        DripCups y = Checks.cave(leaky);
        CHECKS.due("it is better to plug", 10, () -> y.game(1, 2, 1));
        CHECKS.due("for the other one too", 1, () -> y.game(2, 1, 1));
        CHECKS.due("one couple", 1, () -> y.game(1, 2, 0));
        gameGains();
        gameAsItIs();
    }

    private static void gameGains() {
        // tips 4 and 8, by plugging 0: 0 and 0, by plugging 1: 4 and 2, by both: 0 and 0
        DripCups x = Checks.cave("cup 3 0 1;cup 2 0 2;pipe 0 1;frost cup=1 and fill=0;");
        CHECKS.due("the difference is halved: -2 is worse than 0 less 1", 10, () -> x.game(0, 1, 1));
        CHECKS.due("no other couple rests", 1, () -> x.game(0, 1, 0));
        CHECKS.due("the other way round", 1, () -> x.game(1, 0, 1));
        // all leaks from cup 1 until it has tipped: the drop of cup 0 makes it tip 9 times, 4 times, 2 times
        DripCups nine = Checks.cave("cup 12 11 1;cup 4 0 3;pipe 0 1;leaks 99*(cup=1 and tips=0);");
        CHECKS.due("-8 by 2 is worse than 0 less 1", 10, () -> nine.game(0, 1, 1));
        CHECKS.due("for the other one too", 1, () -> nine.game(1, 0, 1));
        DripCups four = Checks.cave("cup 12 11 1;cup 10 6 3;pipe 0 1;leaks 99*(cup=1 and tips=0);");
        CHECKS.due("it tips four times", 4, () -> four.then(1, 12, 1));
        CHECKS.due("-3 by 2 is -1, as 0 less 1: two couples", 2, () -> four.game(0, 1, 0));
        CHECKS.due("the first one doesn't plug", 0, () -> four.game(0, 1, 1));
        DripCups two = Checks.cave("cup 12 11 1;cup 20 17 2;pipe 0 1;leaks 99*(cup=1 and tips=0);");
        CHECKS.due("it tips twice", 2, () -> two.then(1, 12, 1));
        CHECKS.due("-1 by 2 is 0, not -1: one couple", 1, () -> two.game(0, 1, 0));
        CHECKS.due("neither plugs", 0, () -> two.game(0, 1, 1));
        CHECKS.due("nor the other way round", 0, () -> two.game(1, 0, 1));
    }

    private static void gameAsItIs() {
        // plugged it tips twice in 12 hours, else never: 2 by 2 less 1 is as good as 0
        DripCups z = Checks.cave("cup 1 0 2;cup 12 0 1;cup 1 0 0;pipe 0 1;leaks 9*(fill=3);");
        CHECKS.due("two couples", 2, () -> z.game(1, 2, 0));
        CHECKS.due("the first of them", 0, () -> z.game(1, 2, 1));
        CHECKS.due("two couples, the other way round", 2, () -> z.game(2, 1, 0));
        z.plug(1, true);
        CHECKS.due("it is plugged as it is", 1, () -> z.game(1, 2, 0));
        CHECKS.due("so one needn't", 0, () -> z.game(1, 2, 1));
        z.undo();
        z.crack(1, 13);
        CHECKS.due("only once within 12 hours: 1 by 2 is 0, less 1", 1, () -> z.game(1, 2, 0));
        z.crack(1, 6);
        CHECKS.due("four times: 4 by 2 less 1 is more than 0", 10, () -> z.game(1, 2, 1));
        CHECKS.due("that alone", 1, () -> z.game(1, 2, 0));
    }

    private static void years() {
        DripCups x = Checks.cave(FOUR);
        CHECKS.due("no hours: tips", 0, () -> x.years(5, 0, 0));
        CHECKS.due("no hours: fill", 3, () -> x.years(5, 0, 1));
        CHECKS.due("no hours: silent", 4, () -> x.years(5, 0, 2));
        // reckoned by another program; seeds, hours, tips, fill, silent ones
        int[][] due = {
            {0, 1, 1, 2, 3}, {0, 5, 1, 6, 3}, {0, 200, 32, 17, 2},
            {1, 1, 2, 1, 2}, {1, 5, 7, 2, 1}, {1, 200, 84, 9, 0},
            {5, 12, 16, 4, 1}, {7, 12, 12, 10, 2}, {42, 200, 73, 19, 0},
            {-1, 200, 56, 12, 0}, {2147483647, 200, 56, 12, 0}};
        for (int[] row : due) {
            for (int what = 0; what < 3; what++) {
                int w = what;
                String text = "years " + row[0] + " " + row[1] + " " + w;
                CHECKS.due(text, row[w + 2], () -> x.years(row[0], row[1], w));
            }
        }
        CHECKS.due("no what", Checks.NO_SUCH, () -> x.years(1, -1, 3));
        CHECKS.due("no what below", Checks.NO_SUCH, () -> x.years(1, 201, -1));
        CHECKS.due("n -1", Checks.ILLEGAL, () -> x.years(1, -1, 0));
        CHECKS.due("n 201", Checks.ILLEGAL, () -> x.years(1, 201, 2));
        DripCups y = Checks.cave("cup 1 0 1;frost 1;");
        CHECKS.due("frost is asked", 0, () -> y.years(3, 200, 0));
        DripCups one = Checks.cave("cup 2 0 1;");
        CHECKS.due("a cup alone: tips", 7, () -> one.years(0, 200, 0));
        CHECKS.due("a cup alone: fill", 6, () -> one.years(0, 200, 1));
        CHECKS.due("a cup alone by 1", 13, () -> one.years(1, 200, 0));
    }
}
