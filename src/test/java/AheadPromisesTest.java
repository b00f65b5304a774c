/** Promises 13 to 17, 32 to 35 and 39 to 41: what comes, if only hours go by. */
public final class AheadPromisesTest {
    private static final Checks CHECKS = new Checks();
    /** 0 tips in hours 2, 4, 6 ..; 1 in 4, 8, 12 ..; 2 in 3, 6, 9 .. */
    private static final String THREE = "cup 2 0 1;cup 2 0 0;cup 3 0 1;pipe 0 1;";
    /** Fill is 4, 2, 2, 2 .. behind the hours: it never tips; the second hour is frozen. */
    private static final String LEAKS = "cup 10 5 2;leaks fill/2;frost hour=1;";

    public static void main(String[] args) {
        then();
        tipping();
        next();
        together();
        sound();
        later();
        oftenest();
        round();
        pause();
        chorus();
        never();
        swell();
        nothingChanges();
        CHECKS.end();
    }

    private static void then() {
        DripCups x = Checks.cave(THREE);
        CHECKS.due("fill now", 0, () -> x.then(0, 0, 0));
        CHECKS.due("tips in no hours", 0, () -> x.then(0, 0, 1));
        CHECKS.due("fill behind 3", 1, () -> x.then(1, 3, 0));
        CHECKS.due("tips in 7", 3, () -> x.then(0, 7, 1));
        CHECKS.due("tips in 200", 50, () -> x.then(1, 200, 1));
        x.hours(4);
        CHECKS.due("tips from now on", 2, () -> x.then(0, 4, 1));
        CHECKS.due("no cup", Checks.NO_SUCH, () -> x.then(3, 201, 0));
        CHECKS.due("no what", Checks.NO_SUCH, () -> x.then(0, 201, 2));
        CHECKS.due("no what below", Checks.NO_SUCH, () -> x.then(0, -1, -1));
        CHECKS.due("hours 201", Checks.ILLEGAL, () -> x.then(0, 201, 0));
        CHECKS.due("hours -1", Checks.ILLEGAL, () -> x.then(0, -1, 1));
        DripCups y = Checks.cave(LEAKS);
        CHECKS.due("leaks", 4, () -> y.then(0, 1, 0));
        CHECKS.due("leaks, frozen", 2, () -> y.then(0, 2, 0));
        CHECKS.due("leaks, runs again", 2, () -> y.then(0, 3, 0));
    }

    private static void tipping() {
        DripCups x = Checks.cave(THREE);
        int[] due = {0, 1, 4, 3, 0, 5, 0, 3, 4, 1, 0, 7};
        for (int k = 1; k <= due.length; k++) {
            int hour = k;
            CHECKS.due("tipping " + k, due[k - 1], () -> x.tipping(hour));
        }
        CHECKS.due("tipping 200", 3, () -> x.tipping(200));
        CHECKS.due("tipping 0", Checks.ILLEGAL, () -> x.tipping(0));
        CHECKS.due("tipping 201", Checks.ILLEGAL, () -> x.tipping(201));
    }

    private static void next() {
        DripCups x = Checks.cave("cup 30 0 1;cup 7 0 0;cup 9 0 0;pipe 0 1;pipe 1 2;");
        CHECKS.due("next", 30, () -> x.next(0));
        CHECKS.due("beyond 200", -1, () -> x.next(1));
        x.pour(1, 1);
        CHECKS.due("the 180th", 180, () -> x.next(1));
        x.pour(0, 29);
        x.hours(1);
        CHECKS.due("never", -1, () -> x.next(2));
        CHECKS.due("no cup", Checks.NO_SUCH, () -> x.next(3));
        CHECKS.due("no cup below", Checks.NO_SUCH, () -> x.next(-1));
        DripCups y = Checks.cave("cup 20 0 1;cup 10 0 0;pipe 0 1;");
        CHECKS.due("in the 200th", 200, () -> y.next(1));
    }

    private static void together() {
        DripCups x = Checks.cave(THREE);
        CHECKS.due("none told", 1, () -> x.together(0));
        CHECKS.due("one", 3, () -> x.together(4));
        CHECKS.due("two, and another one", 6, () -> x.together(5));
        CHECKS.due("all", 12, () -> x.together(7));
        CHECKS.due("not bits", Checks.ILLEGAL, () -> x.together(8));
        CHECKS.due("below 0", Checks.ILLEGAL, () -> x.together(-1));
        DripCups y = Checks.cave("cup 2 0 1;cup 2 1 1;");
        CHECKS.due("never", -1, () -> y.together(3));
    }

    private static void sound() {
        DripCups x = Checks.cave(THREE);
        CHECKS.due("silence of 1", 1, () -> x.sound(1, 0));
        CHECKS.due("silence of 200", 1, () -> x.sound(200, 0));
        CHECKS.due("loudest of 1", 1, () -> x.sound(1, 1));
        CHECKS.due("loudest of 3", 2, () -> x.sound(3, 1));
        CHECKS.due("loudest of 6", 4, () -> x.sound(6, 1));
        CHECKS.due("loudest of 200", 12, () -> x.sound(200, 1));
        CHECKS.due("no what", Checks.NO_SUCH, () -> x.sound(0, 2));
        CHECKS.due("no what below", Checks.NO_SUCH, () -> x.sound(0, -1));
        CHECKS.due("no hours", Checks.ILLEGAL, () -> x.sound(0, 0));
        CHECKS.due("201 hours", Checks.ILLEGAL, () -> x.sound(201, 1));
        DripCups y = Checks.cave("cup 5 3 1;");
        CHECKS.due("silence between", 4, () -> y.sound(9, 0));
        CHECKS.due("silence ahead", 1, () -> y.sound(2, 0));
        CHECKS.due("silence at the end", 3, () -> y.sound(5, 0));
        DripCups z = Checks.cave("cup 1 0 1;");
        CHECKS.due("no silence", 0, () -> z.sound(200, 0));
        CHECKS.due("loudest of like ones", 1, () -> z.sound(200, 1));
    }

    private static void later() {
        DripCups x = Checks.cave("cup 2 1 1;cup 5 3 0;cup 9 3 0;pipe 0 2;");
        CHECKS.due("fullest now", 1, () -> x.later(0, 0));
        CHECKS.due("fullest behind 1", 2, () -> x.later(1, 0));
        CHECKS.due("dry behind 1", 1, () -> x.later(1, 1));
        CHECKS.due("dry now", 0, () -> x.later(0, 1));
        CHECKS.due("lost: none yet", 0, () -> x.later(10, 2));
        CHECKS.due("lost: 2 tips", 1, () -> x.later(11, 2));
        CHECKS.due("no what", Checks.NO_SUCH, () -> x.later(-1, 3));
        CHECKS.due("no what below", Checks.NO_SUCH, () -> x.later(0, -1));
        CHECKS.due("hours -1", Checks.ILLEGAL, () -> x.later(-1, 0));
        CHECKS.due("hours 201", Checks.ILLEGAL, () -> x.later(201, 2));
        DripCups y = Checks.cave(LEAKS);
        CHECKS.due("lost by leaks", 7, () -> y.later(3, 2));
        DripCups z = Checks.cave("cup 2 0 5;cup 3 1 0;leaks 9;");
        CHECKS.due("two tips, and what is left leaks", 4, () -> z.later(1, 2));
        CHECKS.due("all dry", 3, () -> z.later(1, 1));
        CHECKS.due("of like ones the least", 0, () -> z.later(1, 0));
    }

    private static void oftenest() {
        DripCups x = Checks.cave("cup 4 0 1;cup 2 0 1;cup 4 2 2;");
        CHECKS.due("the only one", 2, () -> x.oftenest(1));
        CHECKS.due("like ones: the least", 1, () -> x.oftenest(4));
        CHECKS.due("hours 0", Checks.ILLEGAL, () -> x.oftenest(0));
        CHECKS.due("hours 201", Checks.ILLEGAL, () -> x.oftenest(201));
        DripCups y = Checks.cave("cup 9 0 1;cup 3 0 1;cup 1 0 0;pipe 1 2;");
        CHECKS.due("none tips", 0, () -> y.oftenest(2));
        CHECKS.due("two as often", 1, () -> y.oftenest(200));
    }

    private static void round() {
        DripCups x = Checks.cave(THREE);
        CHECKS.due("round", 12, () -> x.round());
        x.plug(0, true);
        CHECKS.due("round of one", 3, () -> x.round());
        DripCups y = Checks.cave(LEAKS);
        CHECKS.due("never", -1, () -> y.round());
        y.hours(2);
        CHECKS.due("at once", 1, () -> y.round());
        DripCups z = Checks.cave("cup 20 0 1;cup 10 0 0;pipe 0 1;");
        CHECKS.due("behind 200", 200, () -> z.round());
        z.crack(1, 11);
        CHECKS.due("behind 220", -1, () -> z.round());
    }

    private static void pause() {
        DripCups x = Checks.cave(THREE + "cup 9 8 0;pipe 1 3;cup 9 8 9;");
        CHECKS.due("pause of 0", 2, () -> x.pause(0));
        CHECKS.due("pause of 1", 4, () -> x.pause(1));
        CHECKS.due("pause of 3", 36, () -> x.pause(3));
        CHECKS.due("two tips in one hour", 1, () -> x.pause(4));
        DripCups y = Checks.cave("cup 20 0 1;cup 10 9 0;pipe 0 1;cup 30 0 0;");
        CHECKS.due("within 200 only once", -1, () -> y.pause(1));
        DripCups z = Checks.cave("cup 20 0 1;cup 5 0 0;pipe 0 1;");
        CHECKS.due("the second in the 200th", 100, () -> z.pause(1));
        DripCups w = Checks.cave("cup 4 1 3;");
        CHECKS.due("from the first hour to the third", 2, () -> w.pause(0));
        CHECKS.due("never", -1, () -> y.pause(2));
        CHECKS.due("no cup", Checks.NO_SUCH, () -> y.pause(3));
        CHECKS.due("no cup below", Checks.NO_SUCH, () -> y.pause(-1));
    }

    private static void chorus() {
        DripCups x = Checks.cave(THREE);
        CHECKS.due("of none", 9, () -> x.chorus(0, 9));
        CHECKS.due("of none in 1", 1, () -> x.chorus(0, 1));
        CHECKS.due("of one", 3, () -> x.chorus(4, 11));
        CHECKS.due("of two", 2, () -> x.chorus(5, 12));
        CHECKS.due("of all", 16, () -> x.chorus(7, 200));
        CHECKS.due("not bits", Checks.ILLEGAL, () -> x.chorus(8, 1));
        CHECKS.due("below 0", Checks.ILLEGAL, () -> x.chorus(-1, 1));
        CHECKS.due("hours 0", Checks.ILLEGAL, () -> x.chorus(1, 0));
        CHECKS.due("hours 201", Checks.ILLEGAL, () -> x.chorus(1, 201));
    }

    private static void never() {
        DripCups x = Checks.cave(THREE);
        CHECKS.due("in 1", 7, () -> x.never(1));
        CHECKS.due("in 2", 6, () -> x.never(2));
        CHECKS.due("in 3", 2, () -> x.never(3));
        CHECKS.due("in 4", 0, () -> x.never(4));
        CHECKS.due("hours 0", Checks.ILLEGAL, () -> x.never(0));
        CHECKS.due("hours 201", Checks.ILLEGAL, () -> x.never(201));
        DripCups y = Checks.cave(LEAKS);
        CHECKS.due("in 200", 1, () -> y.never(200));
        DripCups nine = Checks.cave("cup 3 0 0;".repeat(8) + "cup 1 0 1;");
        CHECKS.due("of nine", 255, () -> nine.never(200));
        CHECKS.due("the ninth tips", 256, () -> nine.tipping(1));
        CHECKS.due("of nine the oftenest", 8, () -> nine.oftenest(1));
        CHECKS.due("all nine are dry", 511, () -> nine.later(1, 1));
    }

    private static void swell() {
        DripCups x = Checks.cave(LEAKS + "cup 9 2 3;");
        CHECKS.due("now", 5, () -> x.swell(0, 0));
        CHECKS.due("it is less later", 5, () -> x.swell(0, 200));
        CHECKS.due("behind an hour", 3, () -> x.swell(1, 1));
        DripCups y = Checks.cave("cup 9 2 3;");
        CHECKS.due("behind one hour", 5, () -> y.swell(0, 1));
        CHECKS.due("behind two hours", 8, () -> y.swell(0, 2));
        CHECKS.due("behind three", 8, () -> y.swell(0, 3));
        CHECKS.due("no cup", Checks.NO_SUCH, () -> y.swell(1, 201));
        CHECKS.due("hours 201", Checks.ILLEGAL, () -> y.swell(0, 201));
        CHECKS.due("hours -1", Checks.ILLEGAL, () -> y.swell(0, -1));
    }

    /** Questions change nothing. */
    private static void nothingChanges() {
        DripCups x = Checks.cave("cup 4 1 3;cup 2 0 0;cup 3 2 1;pipe 0 1 2;leaks hour=3;frost hour=2;");
        x.then(0, 200, 0);
        x.tipping(200);
        x.next(0);
        x.together(7);
        x.sound(200, 0);
        x.later(200, 2);
        x.oftenest(200);
        x.round();
        x.pause(0);
        x.chorus(7, 200);
        x.never(200);
        x.swell(0, 200);
        x.toCrack(0, 3, 60, 0);
        x.toPour(0, 60);
        x.office(1, 0);
        x.led(0);
        x.listen(0);
        x.cold(0, 5, 5);
        x.game(0, 1, 0);
        x.years(1, 200, 0);
        x.fallen(0, 1000000);
        x.nth(0, 100);
        x.meeting(7);
        x.flow(0, 77);
        x.giver(1, 77);
        CHECKS.due("hour", 0, () -> x.count(1));
        CHECKS.due("fill", 3, () -> x.count(3));
        CHECKS.due("tips", 0, () -> x.count(4));
        CHECKS.due("plugged", 0, () -> x.count(2));
        CHECKS.due("holds", 4, () -> x.cup(0, 0));
        CHECKS.due("turn", 1, () -> x.cup(0, 3));
        CHECKS.due("acts", 0, () -> x.count(7));
        CHECKS.due("refused", 0, () -> x.count(11));
    }
}
