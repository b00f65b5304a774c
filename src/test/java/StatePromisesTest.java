/** Promises 5 to 12, 42 and 43: count, cup, the acts, undo, image, restore. */
public final class StatePromisesTest {
    private static final Checks CHECKS = new Checks();
    private static final String TURNS = "cup 1 0 3;cup 9 0 0;cup 9 0 0;pipe 0 1 2;";

    public static void main(String[] args) {
        count();
        cup();
        hours();
        turns();
        lead();
        plug();
        pour();
        crack();
        undo();
        latestActs();
        image();
        CHECKS.end();
    }

    private static void count() {
        DripCups x = Checks.cave("cup 4 1 3;cup 4 1 3;cup 3 2 1;cup 4 1 3;cup 4 1 2;pipe 0 4 2;pipe 1 4;");
        CHECKS.due("cups", 5, () -> x.count(0));
        CHECKS.due("hour", 0, () -> x.count(1));
        CHECKS.due("plugged", 0, () -> x.count(2));
        CHECKS.due("fill of all", 6, () -> x.count(3));
        CHECKS.due("roots", 0b01011, () -> x.count(5));
        CHECKS.due("alike", 3, () -> x.count(6));
        x.lead(0, 4);
        CHECKS.due("roots, led", 0b01111, () -> x.count(5));
        x.plug(1, true);
        x.plug(4, true);
        CHECKS.due("plugged bits", 0b10010, () -> x.count(2));
        CHECKS.due("alike, one plugged", 3, () -> x.count(6));
        x.pour(1, 1);
        CHECKS.due("alike, one fuller", 1, () -> x.count(6));
        CHECKS.due("acts", 4, () -> x.count(7));
        x.hours(1);
        // 0: 1+3 tips, 1: stays at 2, 2: 2+1 tips, 3: 1+3 tips, 4: 1 and a drop is 2
        CHECKS.due("hour goes on", 1, () -> x.count(1));
        CHECKS.due("tipped all", 3, () -> x.count(4));
        CHECKS.due("fill then", 4, () -> x.count(3));
        Checks.feed(x, "cup");
        CHECKS.due("bytes", 20, () -> x.count(9));
        CHECKS.due("count 13", Checks.NO_SUCH, () -> x.count(13));
        CHECKS.due("count -1", Checks.NO_SUCH, () -> x.count(-1));
        DripCups one = Checks.cave("cup 1 0 0;");
        CHECKS.due("one is alike with none", 0, () -> one.count(6));
        DripCups nine = Checks.cave("cup 2 1 1;".repeat(9) + "pipe 0 1;pipe 1 2;pipe 2 3;pipe 3 4;pipe 4 5;"
            + "pipe 5 6;pipe 6 7;pipe 7 8;");
        CHECKS.due("nine are alike", 36, () -> nine.count(6));
        CHECKS.due("one is a root", 1, () -> nine.count(5));
        CHECKS.due("nine deep", 8, () -> nine.cup(0, 7));
        CHECKS.due("a drop tips all nine", 1, () -> nine.pour(0, 1));
        CHECKS.due("each of them once", 9, () -> nine.count(4));
        CHECKS.due("none is left", 0, () -> nine.count(3));
        nine.hours(1);
        // 1 drop in 0, no tipping; so each has its spring's drop
        CHECKS.due("a drop in each", 9, () -> nine.count(3));
        nine.hours(1);
        // 2 in 0 tips; each of the others has 1, its spring's drop and one from above: it tips and keeps 1
        CHECKS.due("all tipped again", 18, () -> nine.count(4));
        CHECKS.due("what is over", 8, () -> nine.count(3));
    }

    private static void cup() {
        DripCups x = Checks.cave("cup 5 2 7;cup 6 0 0;cup 1 0 0;cup 9 8 0;pipe 0 2 1;pipe 1 3;pipe 2 3;");
        int[] first = {5, 2, 7, 2, 1, 0, 0, 2, 3};
        int[] last = {9, 8, 0, -1, -1, 0, 0, 0, 1};
        for (int what = 0; what < 9; what++) {
            int w = what;
            CHECKS.due("cup 0 " + w, first[w], () -> x.cup(0, w));
            CHECKS.due("cup 3 " + w, last[w], () -> x.cup(3, w));
        }
        CHECKS.due("cup 1: next drop", 3, () -> x.cup(1, 3));
        CHECKS.due("cup 1: the one behind", 3, () -> x.cup(1, 4));
        CHECKS.due("cup 1: deep", 1, () -> x.cup(1, 7));
        x.plug(0, true);
        CHECKS.due("plugged", 1, () -> x.cup(0, 6));
        CHECKS.due("a plugged spring's drops", 7, () -> x.cup(0, 2));
        x.pour(0, 3);
        CHECKS.due("the other one's turn", 1, () -> x.cup(0, 3));
        CHECKS.due("and then the first one's", 2, () -> x.cup(0, 4));
        CHECKS.due("tipped", 1, () -> x.cup(0, 5));
        CHECKS.due("cup below", 1, () -> x.cup(2, 5));
        CHECKS.due("cup below that", 1, () -> x.cup(3, 5));
        CHECKS.due("no cup 4", Checks.NO_SUCH, () -> x.cup(4, 0));
        CHECKS.due("no cup -1", Checks.NO_SUCH, () -> x.cup(-1, 0));
        CHECKS.due("no what 9", Checks.NO_SUCH, () -> x.cup(0, 9));
        CHECKS.due("no what -1", Checks.NO_SUCH, () -> x.cup(0, -1));
    }

    private static void hours() {
        DripCups x = Checks.cave("cup 3 0 2;cup 2 1 0;pipe 0 1;");
        CHECKS.due("hours 0", -1, () -> x.hours(0));
        CHECKS.due("hours 21", -1, () -> x.hours(21));
        CHECKS.due("hours below 0", -1, () -> x.hours(-5));
        CHECKS.due("hours far too many", -1, () -> x.hours(Integer.MAX_VALUE));
        CHECKS.due("refused", 4, () -> x.count(11));
        CHECKS.due("no act", 0, () -> x.count(7));
        CHECKS.due("hour 1", 1, () -> x.hours(1));
        CHECKS.due("fill 2", 2, () -> x.cup(0, 1));
        CHECKS.due("hour 2", 2, () -> x.hours(1));
        CHECKS.due("tipped, 1 is over", 1, () -> x.cup(0, 1));
        CHECKS.due("the drop tips the cup below in the same hour", 1, () -> x.cup(1, 5));
        CHECKS.due("which is empty", 0, () -> x.cup(1, 1));
        CHECKS.due("hour 22", 22, () -> x.hours(20));
        DripCups y = new DripCups();
        for (int i = 0; i < 499; i++) {
            y.hours(20);
        }
        CHECKS.due("hour 9980", 9980, () -> y.count(1));
        CHECKS.due("above 9999", -1, () -> y.hours(20));
        CHECKS.due("to 9999", 9999, () -> y.hours(19));
        CHECKS.due("behind 9999", -1, () -> y.hours(1));
        DripCups z = Checks.cave("cup 9 0 2;cup 9 0 4;leaks tips+hour;frost cup=0 and fill=2;");
        z.hours(1);
        CHECKS.due("the first hour: no leak", 2, () -> z.cup(0, 1));
        z.hours(1);
        CHECKS.due("frozen, then leaks by the hour", 1, () -> z.cup(0, 1));
        CHECKS.due("not frozen", 7, () -> z.cup(1, 1));
        z.hours(1);
        CHECKS.due("leaks by its tips and the hour", 0, () -> z.cup(1, 1));
        DripCups f = Checks.cave("cup 1 0 1;cup 9 0 5;pipe 0 1;frost fill=1;");
        f.hours(1);
        CHECKS.due("what comes in this hour is not asked by frost", 6, () -> f.cup(1, 1));
    }

    private static void turns() {
        DripCups x = Checks.cave(TURNS);
        x.hours(1);
        CHECKS.due("the first one has two of three", 2, () -> x.cup(1, 1));
        CHECKS.due("the second one has one", 1, () -> x.cup(2, 1));
        CHECKS.due("the second one is next", 2, () -> x.cup(0, 3));
        x.hours(1);
        CHECKS.due("the first one has three", 3, () -> x.cup(1, 1));
        CHECKS.due("the second one too", 3, () -> x.cup(2, 1));
        CHECKS.due("the first one is next", 1, () -> x.cup(0, 3));
    }

    private static void lead() {
        DripCups x = Checks.cave(TURNS);
        x.hours(1);
        CHECKS.is("lead to one of the two", true, () -> x.lead(0, 2));
        CHECKS.is("lead there again", false, () -> x.lead(0, 2));
        CHECKS.due("next", 2, () -> x.cup(0, 3));
        CHECKS.due("and behind", 2, () -> x.cup(0, 4));
        x.hours(1);
        CHECKS.due("all three drops", 4, () -> x.cup(2, 1));
        CHECKS.is("lead to the floor", true, () -> x.lead(0, -1));
        CHECKS.is("lead to the floor again", false, () -> x.lead(0, -1));
        CHECKS.is("lead to itself", false, () -> x.lead(1, 1));
        CHECKS.is("lead upwards", false, () -> x.lead(2, 0));
        CHECKS.due("refused", 4, () -> x.count(11));
        CHECKS.due("lead into no cup", Checks.NO_SUCH, () -> x.lead(0, 3) ? 1 : 0);
        CHECKS.due("lead into -2", Checks.NO_SUCH, () -> x.lead(0, -2) ? 1 : 0);
        CHECKS.due("lead no cup", Checks.NO_SUCH, () -> x.lead(3, -1) ? 1 : 0);
        CHECKS.due("exceptions aren't counted", 4, () -> x.count(11));
        x.undo();
        x.undo();
        x.undo();
        CHECKS.due("undone: the second one's turn", 2, () -> x.cup(0, 3));
        CHECKS.due("undone: the first one behind", 1, () -> x.cup(0, 4));
    }

    private static void plug() {
        DripCups x = Checks.cave("cup 9 0 2;cup 9 0 3;");
        CHECKS.is("it runs already", false, () -> x.plug(0, false));
        CHECKS.is("plug", true, () -> x.plug(0, true));
        CHECKS.is("plug again", false, () -> x.plug(0, true));
        x.hours(2);
        CHECKS.due("nothing came", 0, () -> x.cup(0, 1));
        CHECKS.due("the other one runs", 6, () -> x.cup(1, 1));
        CHECKS.is("runs again", true, () -> x.plug(0, false));
        x.hours(1);
        CHECKS.due("drops come", 2, () -> x.cup(0, 1));
        CHECKS.due("refused", 2, () -> x.count(11));
        CHECKS.due("plug no cup", Checks.NO_SUCH, () -> x.plug(2, true) ? 1 : 0);
        CHECKS.due("plug no cup below", Checks.NO_SUCH, () -> x.plug(-1, true) ? 1 : 0);
    }

    private static void pour() {
        DripCups x = Checks.cave("cup 4 3 9;cup 2 0 9;cup 2 0 9;cup 3 2 9;pipe 0 1 2;pipe 1 3;pipe 2 3;leaks 1;");
        CHECKS.due("pour 0", -1, () -> x.pour(0, 0));
        CHECKS.due("pour 51", -1, () -> x.pour(0, 51));
        CHECKS.due("pour below 0", -1, () -> x.pour(0, -1));
        CHECKS.due("refused", 3, () -> x.count(11));
        // 3+21 is six times 4: three drops to each below; they tip once each: two drops into 3
        CHECKS.due("pour 21", 6, () -> x.pour(0, 21));
        CHECKS.due("cup 0", 0, () -> x.cup(0, 1));
        CHECKS.due("cup 1", 1, () -> x.cup(1, 1));
        CHECKS.due("cup 2", 1, () -> x.cup(2, 1));
        CHECKS.due("cup 3", 1, () -> x.cup(3, 1));
        CHECKS.due("cup 3 tipped", 1, () -> x.cup(3, 5));
        CHECKS.due("all tipped", 9, () -> x.count(4));
        CHECKS.due("no hour", 0, () -> x.count(1));
        CHECKS.due("pour that doesn't tip", 0, () -> x.pour(0, 3));
        CHECKS.due("pour 50", 17, () -> x.pour(3, 50));
        CHECKS.due("pour no cup", Checks.NO_SUCH, () -> x.pour(4, 0));
        CHECKS.due("pour no cup below", Checks.NO_SUCH, () -> x.pour(-1, 1));
    }

    private static void crack() {
        DripCups x = Checks.cave("cup 8 7 0;");
        CHECKS.due("crack 0", -1, () -> x.crack(0, 0));
        CHECKS.due("crack 31", -1, () -> x.crack(0, 31));
        CHECKS.due("it holds as much", -1, () -> x.crack(0, 8));
        CHECKS.due("refused", 3, () -> x.count(11));
        CHECKS.due("crack to 3", 8, () -> x.crack(0, 3));
        CHECKS.due("fill is kept", 2, () -> x.cup(0, 1));
        CHECKS.due("it did not tip", 0, () -> x.cup(0, 5));
        CHECKS.due("crack to 30", 3, () -> x.crack(0, 30));
        CHECKS.due("fill stays", 2, () -> x.cup(0, 1));
        CHECKS.due("crack to 1", 30, () -> x.crack(0, 1));
        CHECKS.due("nothing is left", 0, () -> x.cup(0, 1));
        CHECKS.due("crack no cup", Checks.NO_SUCH, () -> x.crack(1, 31));
        CHECKS.due("crack no cup below", Checks.NO_SUCH, () -> x.crack(-1, 1));
    }

    private static void undo() {
        DripCups x = Checks.cave("cup 4 3 5;cup 9 0 0;cup 9 0 0;pipe 0 1 2;");
        x.hours(3);
        x.plug(0, true);
        x.crack(0, 2);
        x.pour(0, 5);
        x.lead(0, -1);
        x.hear(0, 1, true);
        CHECKS.due("undo lead", 4, () -> x.undo());
        CHECKS.due("undo pour", 3, () -> x.undo());
        CHECKS.due("tips as ahead", 4, () -> x.cup(0, 5));
        CHECKS.due("undo crack", 2, () -> x.undo());
        CHECKS.due("holds as ahead", 4, () -> x.cup(0, 0));
        CHECKS.due("fill as ahead", 2, () -> x.cup(0, 1));
        CHECKS.due("undo plug", 1, () -> x.undo());
        CHECKS.due("runs again", 0, () -> x.count(2));
        CHECKS.due("undo hours", 0, () -> x.undo());
        CHECKS.due("the hour", 0, () -> x.count(1));
        CHECKS.due("fill", 3, () -> x.cup(0, 1));
        CHECKS.due("tips", 0, () -> x.count(4));
        CHECKS.due("nothing to undo", -1, () -> x.undo());
        CHECKS.due("that isn't counted", 0, () -> x.count(11));
        CHECKS.due("what is heard stays", 1, () -> x.count(8));
    }

    private static void latestActs() {
        DripCups x = Checks.cave("cup 30 0 0;");
        for (int i = 0; i < 45; i++) {
            x.hours(1);
        }
        CHECKS.due("forty are kept", 40, () -> x.count(7));
        CHECKS.due("the hour", 45, () -> x.count(1));
        CHECKS.due("undo the latest", 39, () -> x.undo());
        CHECKS.due("the hour ahead of it", 44, () -> x.count(1));
        for (int i = 0; i < 39; i++) {
            x.undo();
        }
        CHECKS.due("all are undone", 0, () -> x.count(7));
        CHECKS.due("the first five stay", 5, () -> x.count(1));
        CHECKS.due("none is left", -1, () -> x.undo());
    }

    private static void image() {
        DripCups x = Checks.cave("cup 4 3 5;cup 9 0 0;cup 9 0 0;pipe 0 1 2;");
        x.hours(1);
        x.pour(0, 7);
        x.hear(1, 2, true);
        x.image();
        x.hours(7);
        x.plug(0, true);
        x.crack(1, 2);
        x.lead(0, -1);
        x.forget();
        x.hear(2, 3, false);
        x.hear(2, 4, false);
        CHECKS.due("refused behind it", -1, () -> x.hours(0));
        Checks.feed(x, "cup");
        CHECKS.is("restore", true, () -> x.restore());
        CHECKS.due("hour", 1, () -> x.count(1));
        CHECKS.due("fill", 3, () -> x.cup(0, 1));
        CHECKS.due("holds", 9, () -> x.cup(1, 0));
        CHECKS.due("plugged", 0, () -> x.count(2));
        CHECKS.due("turn", 2, () -> x.cup(0, 3));
        CHECKS.due("and the other one", 1, () -> x.cup(0, 4));
        CHECKS.due("tips", 3, () -> x.cup(0, 5));
        CHECKS.due("acts", 2, () -> x.count(7));
        CHECKS.due("heard", 1, () -> x.count(8));
        CHECKS.due("status stays", 1, () -> x.count(11));
        CHECKS.due("the tape stays", 20, () -> x.count(9));
        CHECKS.due("undo behind it", 1, () -> x.undo());
        CHECKS.due("undo to the first", 0, () -> x.undo());
        CHECKS.due("fill of the first", 3, () -> x.cup(0, 1));
        x.hours(2);
        x.hours(2);
        x.hours(2);
        CHECKS.is("restore once more", true, () -> x.restore());
        CHECKS.due("acts are as they were", 1, () -> x.undo());
        CHECKS.due("fill ahead of the pour", 0, () -> x.cup(0, 1));
        x.image();
        x.undo();
        x.restore();
        CHECKS.due("another image is in its place", 1, () -> x.count(7));
        CHECKS.due("the heard of it", 1, () -> x.count(8));
    }
}
