/** Promises 18 to 24 and 36 to 38: floors within floors, tiers, plans. */
public final class FarPromisesTest {
    private static final Checks CHECKS = new Checks();

    public static void main(String[] args) {
        fallen();
        nth();
        meeting();
        flow();
        giver();
        tier();
        ways();
        toCrack();
        office();
        toPour();
        CHECKS.end();
    }

    private static void fallen() {
        DripCups x = Checks.cave("cup 3 2 1;cup 2 1 0;cup 2 1 1;pipe 0 1 2;leaks 9;frost 1;");
        CHECKS.due("in no hours", 0, () -> x.fallen(0, 0));
        CHECKS.due("in 1", 1, () -> x.fallen(0, 1));
        CHECKS.due("the cup below in 1", 1, () -> x.fallen(1, 1));
        CHECKS.due("in a million", 333334, () -> x.fallen(0, 1000000));
        CHECKS.due("below, the first one has the odd drop", 84, () -> x.fallen(1, 1000));
        CHECKS.due("below, with a spring", 584, () -> x.fallen(2, 1000));
        x.plug(2, true);
        CHECKS.due("plugged", 84, () -> x.fallen(2, 1000));
        x.plug(0, true);
        CHECKS.due("all plugged", 0, () -> x.fallen(0, 1000000));
        CHECKS.due("no cup", Checks.NO_SUCH, () -> x.fallen(3, -1));
        CHECKS.due("hours -1", Checks.ILLEGAL, () -> x.fallen(0, -1));
        CHECKS.due("hours 1000001", Checks.ILLEGAL, () -> x.fallen(0, 1000001));
        DripCups y = Checks.cave("cup 1 0 20;".repeat(9)
            + "pipe 0 1;pipe 1 2;pipe 2 3;pipe 3 4;pipe 4 5;pipe 5 6;pipe 6 7;pipe 7 8;");
        CHECKS.due("the most", 180000000, () -> y.fallen(8, 1000000));
        CHECKS.due("the most flow", 180000000, () -> y.flow(8, 1000000));
        CHECKS.due("the greatest n", 555556, () -> y.nth(8, 100000000));
        x.undo();
        x.pour(0, 1);
        CHECKS.due("by turns: the second one's turn", 1, () -> x.fallen(2, 3));
    }

    private static void nth() {
        DripCups x = Checks.cave("cup 30 0 1;cup 1 0 0;cup 9 0 0;cup 5 0 11;pipe 0 1;leaks 99;frost 1;");
        CHECKS.due("first", 30, () -> x.nth(0, 1));
        CHECKS.due("below", 60, () -> x.nth(1, 2));
        CHECKS.due("twice in the first hour", 1, () -> x.nth(3, 2));
        CHECKS.due("third in the second", 2, () -> x.nth(3, 3));
        CHECKS.due("the last one", 999990, () -> x.nth(0, 33333));
        CHECKS.due("one more", -1, () -> x.nth(0, 33334));
        CHECKS.due("never", -1, () -> x.nth(2, 1));
        CHECKS.due("no cup", Checks.NO_SUCH, () -> x.nth(4, 0));
        CHECKS.due("n 0", Checks.ILLEGAL, () -> x.nth(0, 0));
        CHECKS.due("n too great", Checks.ILLEGAL, () -> x.nth(0, 100000001));
        x.hours(20);
        x.undo();
        x.pour(0, 20);
        CHECKS.due("from now on", 10, () -> x.nth(0, 1));
        DripCups y = Checks.cave("cup 10 0 1;");
        CHECKS.due("in the millionth hour", 1000000, () -> y.nth(0, 100000));
        CHECKS.due("behind it", -1, () -> y.nth(0, 100001));
    }

    private static void meeting() {
        DripCups x = Checks.cave("cup 29 0 1;cup 30 0 1;cup 7 0 1;leaks 99;frost 1;");
        CHECKS.due("of none", 1, () -> x.meeting(0));
        CHECKS.due("of one", 30, () -> x.meeting(2));
        CHECKS.due("of two", 870, () -> x.meeting(3));
        CHECKS.due("of three beyond 5000", -1, () -> x.meeting(7));
        DripCups first = Checks.cave("cup 1 0 1;");
        CHECKS.due("in the first", 1, () -> first.meeting(1));
        DripCups late = Checks.cave("cup 26 17 1;cup 14 3 0;cup 14 0 0;pipe 0 1;pipe 1 2;");
        CHECKS.due("in the 5001st", -1, () -> late.meeting(4));
        late.pour(0, 1);
        CHECKS.due("an hour earlier", 5000, () -> late.meeting(4));
        CHECKS.due("not bits", Checks.ILLEGAL, () -> x.meeting(8));
        CHECKS.due("below 0", Checks.ILLEGAL, () -> x.meeting(-1));
        x.plug(2, true);
        CHECKS.due("plugged", -1, () -> x.meeting(4));
        DripCups y = Checks.cave("cup 25 0 1;cup 20 0 0;pipe 0 1;cup 10 0 0;pipe 1 2;");
        CHECKS.due("in the 5000th", 5000, () -> y.meeting(7));
        y.plug(0, true);
        y.hours(1);
        y.plug(0, false);
        y.pour(0, 1);
        CHECKS.due("an hour ahead of that", 4999, () -> y.meeting(4));
        y.undo();
        y.lead(1, -1);
        CHECKS.due("never", -1, () -> y.meeting(7));
    }

    private static void flow() {
        DripCups x = Checks.cave("cup 2 1 3;cup 5 0 1;cup 5 0 0;pipe 0 1 2;leaks 9;frost 1;");
        CHECKS.due("in no hours", 0, () -> x.flow(1, 0));
        CHECKS.due("from the spring", 30, () -> x.flow(0, 10));
        // 31 drops tip it 15 times: 8 go into the first one, 7 into the second one
        CHECKS.due("from the spring and from above", 18, () -> x.flow(1, 10));
        CHECKS.due("from above", 7, () -> x.flow(2, 10));
        x.plug(1, true);
        CHECKS.due("plugged", 8, () -> x.flow(1, 10));
        CHECKS.due("in a million", 3000000, () -> x.flow(0, 1000000));
        CHECKS.due("no cup", Checks.NO_SUCH, () -> x.flow(-1, -1));
        CHECKS.due("hours -1", Checks.ILLEGAL, () -> x.flow(0, -1));
        CHECKS.due("hours 1000001", Checks.ILLEGAL, () -> x.flow(0, 1000001));
    }

    private static void giver() {
        DripCups x = Checks.cave("cup 1 0 3;cup 1 0 1;cup 1 0 2;cup 9 0 0;cup 9 0 0;"
            + "pipe 0 3 4;pipe 1 3;pipe 2 4;leaks 9;frost 1;");
        CHECKS.due("two of three in the first hour", 0, () -> x.giver(3, 1));
        CHECKS.due("more by turns", 0, () -> x.giver(3, 1000000));
        CHECKS.due("the only straight one gives more", 2, () -> x.giver(4, 10));
        CHECKS.due("in no hours: the least", 0, () -> x.giver(4, 0));
        CHECKS.due("none", -1, () -> x.giver(2, 10));
        x.plug(0, true);
        CHECKS.due("plugged", 1, () -> x.giver(3, 10));
        x.plug(1, true);
        CHECKS.due("of like ones the least", 0, () -> x.giver(3, 10));
        DripCups y = Checks.cave("cup 3 0 1;cup 3 0 1;cup 9 0 0;cup 9 0 0;pipe 0 3;pipe 1 2 3;");
        CHECKS.due("both give nothing: the least", 0, () -> y.giver(3, 1));
        y.crack(1, 1);
        CHECKS.due("as the second one of two", 1, () -> y.giver(3, 9));
        CHECKS.due("no cup", Checks.NO_SUCH, () -> x.giver(5, -1));
        CHECKS.due("hours -1", Checks.ILLEGAL, () -> x.giver(0, -1));
        CHECKS.due("hours 1000001", Checks.ILLEGAL, () -> x.giver(0, 1000001));
    }

    private static String five() {
        return "cup 9 0 0;".repeat(5) + "pipe 0 1 2;pipe 1 3 2;pipe 2 3;";
    }

    private static void tier() {
        DripCups x = Checks.cave(five());
        CHECKS.due("above 0", 0, () -> x.tier(0, 0));
        CHECKS.due("above 2", 0b00011, () -> x.tier(2, 0));
        CHECKS.due("above 3", 0b00111, () -> x.tier(3, 0));
        CHECKS.due("above 4", 0, () -> x.tier(4, 0));
        CHECKS.due("below 0", 0b01110, () -> x.tier(0, 1));
        CHECKS.due("below 2", 0b01000, () -> x.tier(2, 1));
        CHECKS.due("below 3", 0, () -> x.tier(3, 1));
        x.lead(2, 4);
        CHECKS.due("led: above 4", 0b00111, () -> x.tier(4, 0));
        CHECKS.due("led: below 0", 0b11110, () -> x.tier(0, 1));
        CHECKS.due("no cup", Checks.NO_SUCH, () -> x.tier(5, 0));
        CHECKS.due("no what", Checks.NO_SUCH, () -> x.tier(0, 2));
        CHECKS.due("no what below", Checks.NO_SUCH, () -> x.tier(0, -1));
        CHECKS.due("deep", 3, () -> x.cup(0, 7));
        x.lead(0, -1);
        CHECKS.due("on the floor", 0, () -> x.tier(0, 1));
        CHECKS.due("not deep", 0, () -> x.cup(0, 7));
    }

    private static void ways() {
        DripCups x = Checks.cave(five());
        CHECKS.due("to itself", 1, () -> x.ways(4, 4));
        CHECKS.due("0 to 3", 3, () -> x.ways(0, 3));
        CHECKS.due("0 to 2", 2, () -> x.ways(0, 2));
        CHECKS.due("upwards", 0, () -> x.ways(3, 0));
        CHECKS.due("to none of them", 0, () -> x.ways(0, 4));
        CHECKS.due("no cup", Checks.NO_SUCH, () -> x.ways(5, 0));
        CHECKS.due("no other", Checks.NO_SUCH, () -> x.ways(0, 5));
        CHECKS.due("no other below", Checks.NO_SUCH, () -> x.ways(0, -1));
        DripCups y = Checks.cave("cup 9 0 0;".repeat(9)
            + "pipe 0 1 2;pipe 1 2 3;pipe 2 3 4;pipe 3 4 5;pipe 4 5 6;pipe 5 6 7;pipe 6 7 8;pipe 7 8;");
        CHECKS.due("the most", 34, () -> y.ways(0, 8));
    }

    private static void toCrack() {
        DripCups x = Checks.cave("cup 30 5 2;cup 9 0 0;");
        // 5 and 60 drops tip a cup of 11, 12 or 13 five times
        CHECKS.due("five times in 30 hours", 11, () -> x.toCrack(0, 5, 30, 0));
        CHECKS.due("by nothing", 0, () -> x.toCrack(0, 5, 30, 1));
        CHECKS.due("far too often", 1, () -> x.toCrack(0, Integer.MAX_VALUE, 1, 0));
        CHECKS.due("by how much", Integer.MAX_VALUE - 2, () -> x.toCrack(0, Integer.MAX_VALUE, 1, 1));
        CHECKS.due("never", 8, () -> x.toCrack(0, 0, 1, 0));
        CHECKS.due("it can't", 1, () -> x.toCrack(1, 3, 60, 0));
        DripCups full = Checks.cave("cup 10 9 20;");
        CHECKS.due("only by the most", 30, () -> full.toCrack(0, 0, 1, 0));
        CHECKS.due("by three", 3, () -> x.toCrack(1, 3, 60, 1));
        CHECKS.due("no cup", Checks.NO_SUCH, () -> x.toCrack(2, -1, 0, 0));
        CHECKS.due("no what", Checks.NO_SUCH, () -> x.toCrack(0, -1, 0, 2));
        CHECKS.due("times -1", Checks.ILLEGAL, () -> x.toCrack(0, -1, 1, 0));
        CHECKS.due("hours 0", Checks.ILLEGAL, () -> x.toCrack(0, 1, 0, 0));
        CHECKS.due("hours 61", Checks.ILLEGAL, () -> x.toCrack(0, 1, 61, 0));
        DripCups y = Checks.cave("cup 30 0 2;leaks 1;");
        // a cup of 2 tips each hour and is empty then; of 3: 2 less 1, then 3 tips: every second hour
        CHECKS.due("with leaks", 3, () -> y.toCrack(0, 10, 20, 0));
        DripCups z = Checks.cave("cup 30 0 2;frost 1;");
        CHECKS.due("with frost", 10, () -> z.toCrack(0, 10, 20, 1));
        DripCups f = Checks.cave("cup 30 29 1;");
        // fill is kept to one less: whatever it holds, it tips in the first hour
        CHECKS.due("fill is kept", 1, () -> f.toCrack(0, 0, 1, 0));
        CHECKS.due("once at least", 1, () -> f.toCrack(0, 0, 1, 1));
    }

    private static void office() {
        // 1 tips in 10, 20 ..; 0 in 15, 30 ..
        DripCups x = Checks.cave("cup 15 0 1;cup 10 0 1;cup 30 0 1;");
        CHECKS.due("nearest to 1", 1, () -> x.office(1, 0));
        CHECKS.due("hour", 10, () -> x.office(1, 1));
        CHECKS.due("nearest to 12", 10, () -> x.office(12, 1));
        CHECKS.due("nearest to 13", 0, () -> x.office(13, 0));
        CHECKS.due("hour 15", 15, () -> x.office(13, 1));
        CHECKS.due("as near: the earlier", 20, () -> x.office(25, 1));
        CHECKS.due("of cups the least", 0, () -> x.office(30, 0));
        CHECKS.due("at 60", 60, () -> x.office(60, 1));
        CHECKS.due("no what", Checks.NO_SUCH, () -> x.office(0, 2));
        CHECKS.due("no what below", Checks.NO_SUCH, () -> x.office(0, -1));
        CHECKS.due("k 0", Checks.ILLEGAL, () -> x.office(0, 0));
        CHECKS.due("k 61", Checks.ILLEGAL, () -> x.office(61, 1));
        DripCups z = Checks.cave("cup 30 0 0;leaks 1;");
        CHECKS.due("none", -1, () -> z.office(60, 0));
        CHECKS.due("none's hour", -1, () -> z.office(60, 1));
        DripCups late = Checks.cave("cup 1 0 1;frost not hour=119;");
        CHECKS.due("in the 120th", 120, () -> late.office(1, 1));
        DripCups tooLate = Checks.cave("cup 1 0 1;frost not hour=120;");
        CHECKS.due("in the 121st", -1, () -> tooLate.office(60, 1));
    }

    private static void toPour() {
        DripCups x = Checks.cave("cup 5 0 1;cup 30 0 0;pipe 0 1;");
        CHECKS.due("in the 5th: none", 0, () -> x.toPour(0, 5));
        CHECKS.due("in the 1st", 4, () -> x.toPour(0, 1));
        CHECKS.due("in the 60th", 0, () -> x.toPour(0, 60));
        CHECKS.due("in the 58th", 2, () -> x.toPour(0, 58));
        CHECKS.due("the cup below", 29, () -> x.toPour(1, 5));
        CHECKS.due("where no drop comes", -1, () -> x.toPour(1, 4));
        CHECKS.due("no cup", Checks.NO_SUCH, () -> x.toPour(2, 0));
        CHECKS.due("k 0", Checks.ILLEGAL, () -> x.toPour(0, 0));
        CHECKS.due("k 61", Checks.ILLEGAL, () -> x.toPour(0, 61));
        // the spring thaws with the 12th tipping, and two drops must lie in the cup then
        DripCups y = Checks.cave("cup 4 0 1;frost tips<12;");
        CHECKS.due("fifty tip it twelve times", 50, () -> y.toPour(0, 2));
        DripCups z = Checks.cave("cup 4 0 1;frost tips<13;");
        CHECKS.due("more than fifty", -1, () -> z.toPour(0, 2));
    }
}
