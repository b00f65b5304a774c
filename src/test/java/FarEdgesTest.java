/** The edges that the document names for promises 18 to 24 and 36 to 38: each sentence has a method of its own. */
public final class FarEdgesTest {
    private static final Checks CHECKS = new Checks();
    private static final int LEAST = Integer.MIN_VALUE;
    private static final int MOST = Integer.MAX_VALUE;
    private static final int[] NO_CUPS = {-1, 3, 8, 9, LEAST, MOST};
    private static final int[] NO_BITS = {8, 9, 511, 512, -1, LEAST, MOST};
    private static final int[] NOT_TO_A_MILLION = {-1, 1000001, LEAST, MOST};
    private static final String CHAIN = "pipe 0 1;pipe 1 2;pipe 2 3;pipe 3 4;pipe 4 5;pipe 5 6;pipe 6 7;pipe 7 8;";

    public static void main(String[] args) {
        fallenThrows();
        fallenEnds();
        nthThrows();
        nthEnds();
        meetingThrows();
        meetingEnds();
        flowThrows();
        flowEnds();
        neitherLeaksNorFrost();
        tierThrows();
        tierEnds();
        toCrackThrows();
        toCrackEnds();
        toCrackLikeOnes();
        toCrackFill();
        officeThrows();
        officeEnds();
        officeAsNear();
        giverThrows();
        giverEnds();
        toPourThrows();
        toPourEnds();
        toPourPours();
        waysThrows();
        waysEnds();
        CHECKS.end();
    }

    private static void illegal(String what, Checks.CallOn call) {
        CHECKS.refused(what, -1, Checks.ILLEGAL, Checks::used, call);
    }

    private static void noSuch(String what, Checks.CallOn call) {
        CHECKS.refused(what, -1, Checks.NO_SUCH, Checks::used, call);
    }

    private static DripCups tipsIn(int k, int other) {
        return Checks.cave("cup 1 0 1;frost not (hour=" + (k - 1) + " or hour=" + (other - 1) + ");");
    }

    // ---- promise 18 ----

    /** "IllegalArgumentException (behind NoSuchElementException): not 0 to 1000000." */
    private static void fallenThrows() {
        for (int hours : NOT_TO_A_MILLION) {
            illegal("fallen " + hours, x -> x.fallen(0, hours));
            noSuch("fallen 3 " + hours, x -> x.fallen(3, hours));
        }
        for (int cup : NO_CUPS) {
            noSuch("fallen " + cup, x -> x.fallen(cup, 1));
        }
    }

    /** "FALLEN: how often a CUP tips in so many HOURS (0 to 1000000)." */
    private static void fallenEnds() {
        DripCups x = Checks.cave("cup 10 0 1;cup 10 9 1;cup 30 29 0;");
        CHECKS.due("in none", 0, () -> x.fallen(0, 0));
        CHECKS.due("in none, nearly full", 0, () -> x.fallen(1, 0));
        CHECKS.due("in 1", 0, () -> x.fallen(0, 1));
        CHECKS.due("in 1, nearly full", 1, () -> x.fallen(1, 1));
        CHECKS.due("in 9", 0, () -> x.fallen(0, 9));
        CHECKS.due("in 10", 1, () -> x.fallen(0, 10));
        CHECKS.due("in 999999", 99999, () -> x.fallen(0, 999999));
        CHECKS.due("in 1000000", 100000, () -> x.fallen(0, 1000000));
        CHECKS.due("without a spring", 0, () -> x.fallen(2, 1000000));
        x.hours(7);
        CHECKS.due("from now on", 1, () -> x.fallen(0, 3));
        DripCups most = Checks.cave("cup 1 0 20;".repeat(9) + CHAIN);
        CHECKS.due("the most, of the first", 20000000, () -> most.fallen(0, 1000000));
        CHECKS.due("the most, of the last", 180000000, () -> most.fallen(8, 1000000));
        DripCups turns = Checks.cave("cup 1 0 1;cup 1 0 0;cup 1 0 0;pipe 0 1 2;");
        CHECKS.due("by turns: the first one", 1, () -> turns.fallen(1, 1));
        CHECKS.due("by turns: the second one", 0, () -> turns.fallen(2, 1));
        turns.hours(1);
        CHECKS.due("the second one's turn: the first one", 0, () -> turns.fallen(1, 1));
        CHECKS.due("the second one's turn: the second one", 1, () -> turns.fallen(2, 1));
        CHECKS.due("by turns: the first one has no odd drop", 499999, () -> turns.fallen(1, 999999));
        CHECKS.due("by turns: the second one has it", 500000, () -> turns.fallen(2, 999999));
    }

    // ---- promise 19 ----

    /** "IllegalArgumentException (behind NoSuchElementException): not 1 to 100000000." */
    private static void nthThrows() {
        for (int n : new int[] {0, -1, 100000001, LEAST, MOST}) {
            illegal("nth " + n, x -> x.nth(0, n));
            noSuch("nth 3 " + n, x -> x.nth(3, n));
        }
        for (int cup : NO_CUPS) {
            noSuch("nth " + cup, x -> x.nth(cup, 1));
        }
    }

    /** "N-TH: in which HOUR (1 to 1000000) a CUP tips for the n-th time from now on (1 to 100000000); none." */
    private static void nthEnds() {
        DripCups x = Checks.cave("cup 1 0 1;cup 30 0 0;cup 7 3 3;");
        CHECKS.due("the first", 1, () -> x.nth(0, 1));
        CHECKS.due("the second", 2, () -> x.nth(0, 2));
        CHECKS.due("in hour 999999", 999999, () -> x.nth(0, 999999));
        CHECKS.due("in hour 1000000", 1000000, () -> x.nth(0, 1000000));
        CHECKS.due("behind it", -1, () -> x.nth(0, 1000001));
        CHECKS.due("the greatest n", -1, () -> x.nth(0, 100000000));
        CHECKS.due("never", -1, () -> x.nth(1, 1));
        // 3 and 3 an hour: 7 and more in hour 2, 14 and more in hour 4, 21 in hour 6
        CHECKS.due("of seven: first", 2, () -> x.nth(2, 1));
        CHECKS.due("of seven: second", 4, () -> x.nth(2, 2));
        CHECKS.due("of seven: third", 6, () -> x.nth(2, 3));
        x.hours(5);
        CHECKS.due("from now on", 1, () -> x.nth(0, 1));
        DripCups often = Checks.cave("cup 1 0 20;".repeat(9) + CHAIN);
        CHECKS.due("100 an hour or more: in hour 555556", 555556, () -> often.nth(8, 100000000));
        CHECKS.due("180 in the first hour", 1, () -> often.nth(8, 180));
        CHECKS.due("the next one in the second", 2, () -> often.nth(8, 181));
        CHECKS.due("the last of hour 1000000 would be too great", Checks.ILLEGAL, () -> often.nth(8, 180000000));
        CHECKS.due("of the first cup the last", 1000000, () -> often.nth(0, 20000000));
        CHECKS.due("of the first cup one more", -1, () -> often.nth(0, 20000001));
    }

    // ---- promise 20 ----

    /** "IllegalArgumentException: not bits of CUPS." */
    private static void meetingThrows() {
        for (int some : NO_BITS) {
            illegal("meeting " + some, x -> x.meeting(some));
        }
        DripCups nine = Checks.cave("cup 1 0 1;".repeat(9));
        CHECKS.due("all nine", 1, () -> nine.meeting(511));
        CHECKS.due("a tenth", Checks.ILLEGAL, () -> nine.meeting(512));
    }

    /** "MEETING: the first HOUR (1 to 5000) in which all of some CUPS tip; none", "(of no CUPS: 1)" */
    private static void meetingEnds() {
        DripCups silent = Checks.cave("cup 9 0 0;");
        CHECKS.due("of no cups", 1, () -> silent.meeting(0));
        CHECKS.due("none", -1, () -> silent.meeting(1));
        DripCups never = Checks.cave("cup 2 0 1;cup 2 1 1;");
        CHECKS.due("each tips, but never both", -1, () -> never.meeting(3));
        CHECKS.due("the one", 2, () -> never.meeting(1));
        CHECKS.due("the other one", 1, () -> never.meeting(2));
        // the third one tips with the 5000th drop of the first one's spring
        DripCups last = Checks.cave("cup 25 0 1;cup 20 0 0;cup 10 0 0;pipe 0 1;pipe 1 2;");
        CHECKS.due("in 5000", 5000, () -> last.meeting(7));
        CHECKS.due("of the third alone", 5000, () -> last.meeting(4));
        last.hours(1);
        CHECKS.due("an hour later in 4999", 4999, () -> last.meeting(7));
        DripCups late = Checks.cave("cup 29 27 1;cup 25 24 0;cup 7 0 0;pipe 0 1;pipe 1 2;");
        // hour 2 and then each 725th hour: the seventh time is in 2 + 6 * 725
        CHECKS.due("in 4352", 4352, () -> late.meeting(7));
        DripCups behind = Checks.cave("cup 26 17 1;cup 14 3 0;cup 14 0 0;pipe 0 1;pipe 1 2;");
        CHECKS.due("in 5001", -1, () -> behind.meeting(4));
        behind.hours(1);
        CHECKS.due("an hour later in 5000", 5000, () -> behind.meeting(4));
        DripCups more = Checks.cave("cup 2 0 1;cup 3 0 1;cup 1 0 1;");
        CHECKS.due("others may tip too", 6, () -> more.meeting(3));
    }

    // ---- promise 21 ----

    /** "IllegalArgumentException (behind NoSuchElementException): not 0 to 1000000." */
    private static void flowThrows() {
        for (int hours : NOT_TO_A_MILLION) {
            illegal("flow " + hours, x -> x.flow(0, hours));
            noSuch("flow 3 " + hours, x -> x.flow(3, hours));
        }
        for (int cup : NO_CUPS) {
            noSuch("flow " + cup, x -> x.flow(cup, 1));
        }
    }

    /** "FLOW of a CUP: how many drops go into it in so many HOURS (0 to 1000000), from its SPRING and from above." */
    private static void flowEnds() {
        DripCups x = Checks.cave("cup 2 1 1;cup 9 5 3;cup 9 8 0;pipe 0 1;");
        CHECKS.due("in none", 0, () -> x.flow(1, 0));
        CHECKS.due("in 1: three and one", 4, () -> x.flow(1, 1));
        CHECKS.due("in 2: six and one", 7, () -> x.flow(1, 2));
        CHECKS.due("in 999999", 3499997, () -> x.flow(1, 999999));
        CHECKS.due("in 1000000", 3500000, () -> x.flow(1, 1000000));
        CHECKS.due("nothing comes", 0, () -> x.flow(2, 1000000));
        x.plug(1, true);
        CHECKS.due("plugged: only from above", 500000, () -> x.flow(1, 1000000));
        x.plug(0, true);
        CHECKS.due("both plugged", 0, () -> x.flow(1, 1000000));
        DripCups most = Checks.cave("cup 1 0 20;".repeat(9) + CHAIN);
        CHECKS.due("the most", 180000000, () -> most.flow(8, 1000000));
    }

    /** "(Were there no LEAKS and no FROST; PLUGGED SPRINGS stay so:)" */
    private static void neitherLeaksNorFrost() {
        DripCups x = Checks.cave("cup 3 0 1;cup 2 0 1;pipe 0 1;leaks 99;frost 1;");
        CHECKS.due("it never tips", -1, () -> x.next(1));
        CHECKS.due("fallen", 2, () -> x.fallen(1, 3));
        CHECKS.due("nth", 3, () -> x.nth(1, 2));
        CHECKS.due("meeting", 3, () -> x.meeting(3));
        CHECKS.due("flow", 4, () -> x.flow(1, 3));
        CHECKS.due("giver", 0, () -> x.giver(1, 3));
        x.plug(1, true);
        CHECKS.due("plugged: fallen", 0, () -> x.fallen(1, 3));
        CHECKS.due("plugged: nth", 6, () -> x.nth(1, 1));
        CHECKS.due("plugged: meeting", 6, () -> x.meeting(3));
        CHECKS.due("plugged: flow", 1, () -> x.flow(1, 3));
    }

    // ---- promise 22 ----

    /** "NoSuchElementException: also another what." */
    private static void tierThrows() {
        for (int cup : NO_CUPS) {
            noSuch("tier " + cup + " 0", x -> x.tier(cup, 0));
            noSuch("tier " + cup + " 1", x -> x.tier(cup, 1));
            noSuch("tier " + cup + " 2", x -> x.tier(cup, 2));
        }
        for (int what : new int[] {-1, 2, LEAST, MOST}) {
            noSuch("tier what " + what, x -> x.tier(0, what));
        }
    }

    /** "ABOVE a CUP: from which drops may come into it, straight or through others (bits). BELOW: .. (bits)." */
    private static void tierEnds() {
        DripCups chain = Checks.cave("cup 9 0 0;".repeat(9) + CHAIN);
        for (int cup = 0; cup < 9; cup++) {
            int c = cup;
            CHECKS.due("above " + c, (1 << c) - 1, () -> chain.tier(c, 0));
            CHECKS.due("below " + c, 511 & ~((2 << c) - 1), () -> chain.tier(c, 1));
        }
        DripCups none = Checks.cave("cup 9 0 0;".repeat(9));
        CHECKS.due("nothing above", 0, () -> none.tier(8, 0));
        CHECKS.due("nothing below", 0, () -> none.tier(0, 1));
        DripCups two = Checks.cave("cup 9 0 0;".repeat(6) + "pipe 0 3 1;pipe 1 4;pipe 2 3;");
        CHECKS.due("below: both of two, and through one of them", 0b011010, () -> two.tier(0, 1));
        CHECKS.due("above 3", 0b000101, () -> two.tier(3, 0));
        CHECKS.due("above 4", 0b000011, () -> two.tier(4, 0));
        CHECKS.due("above 5", 0, () -> two.tier(5, 0));
        two.plug(0, true);
        CHECKS.due("plugged or dry, they may", 0b000011, () -> two.tier(4, 0));
        two.lead(1, 5);
        CHECKS.due("as they are led now: above 4", 0, () -> two.tier(4, 0));
        CHECKS.due("as they are led now: above 5", 0b000011, () -> two.tier(5, 0));
        CHECKS.due("as they are led now: below 0", 0b101010, () -> two.tier(0, 1));
    }

    // ---- promise 23 ----

    /** "NoSuchElementException: also another what. IllegalArgumentException (behind that): times .., hours not 1 to 60." */
    private static void toCrackThrows() {
        for (int times : new int[] {-1, LEAST}) {
            illegal("toCrack times " + times, x -> x.toCrack(0, times, 1, 0));
            noSuch("toCrack 3, times " + times, x -> x.toCrack(3, times, 1, 0));
            noSuch("toCrack what 2, times " + times, x -> x.toCrack(0, times, 1, 2));
        }
        for (int hours : new int[] {0, 61, -1, LEAST, MOST}) {
            illegal("toCrack hours " + hours, x -> x.toCrack(0, 1, hours, 0));
            illegal("toCrack hours " + hours + ", by how much", x -> x.toCrack(0, 1, hours, 1));
            illegal("toCrack times -1, hours " + hours, x -> x.toCrack(0, -1, hours, 1));
            noSuch("toCrack 3, hours " + hours, x -> x.toCrack(3, 1, hours, 0));
            noSuch("toCrack what -1, hours " + hours, x -> x.toCrack(0, 1, hours, -1));
        }
        for (int cup : NO_CUPS) {
            noSuch("toCrack " + cup, x -> x.toCrack(cup, 1, 1, 0));
        }
        for (int what : new int[] {-1, 2, LEAST, MOST}) {
            noSuch("toCrack what " + what, x -> x.toCrack(0, 1, 1, what));
        }
    }

    /** "TO CRACK: the number that a CUP must HOLD (1 to 30), so that it tips a told number of times in .. (1 to 60)" */
    private static void toCrackEnds() {
        DripCups x = Checks.cave("cup 9 0 20;cup 9 0 0;cup 9 0 1;");
        CHECKS.due("20 in 1 hour: holds 1", 1, () -> x.toCrack(0, 20, 1, 0));
        CHECKS.due("0 in 1 hour: holds 21", 21, () -> x.toCrack(0, 0, 1, 0));
        CHECKS.due("40 in 60 hours: holds 30", 30, () -> x.toCrack(0, 40, 60, 0));
        CHECKS.due("by nothing", 0, () -> x.toCrack(0, 40, 60, 1));
        CHECKS.due("39 in 60 hours: 30 is nearest", 30, () -> x.toCrack(0, 39, 60, 0));
        CHECKS.due("by one", 1, () -> x.toCrack(0, 39, 60, 1));
        CHECKS.due("1200 in 60 hours", 1, () -> x.toCrack(0, 1200, 60, 0));
        CHECKS.due("1200 in 60 hours, by nothing", 0, () -> x.toCrack(0, 1200, 60, 1));
        CHECKS.due("1201 in 60 hours, by one", 1, () -> x.toCrack(0, 1201, 60, 1));
        CHECKS.due("far too often", 1, () -> x.toCrack(0, MOST, 60, 0));
        CHECKS.due("far too often, by how much", MOST - 1200, () -> x.toCrack(0, MOST, 60, 1));
        CHECKS.due("never, where nothing comes: the least", 1, () -> x.toCrack(1, 0, 60, 0));
        CHECKS.due("in 59 hours: only 30 tips but once", 30, () -> x.toCrack(2, 1, 59, 0));
        CHECKS.due("in 60 hours it tips twice, as 21 does", 21, () -> x.toCrack(2, 1, 60, 0));
        CHECKS.due("so it is by one", 1, () -> x.toCrack(2, 1, 60, 1));
        DripCups same = Checks.cave("cup 5 0 1;");
        CHECKS.due("what it holds now may be it", 5, () -> same.toCrack(0, 1, 9, 0));
    }

    /** "or by as little more or less as it can (of like ones the least)" */
    private static void toCrackLikeOnes() {
        // of 12 drops: 12, 6, 4, 3, 2, 2, 1 .. 1 (7 to 12), 0 times
        DripCups x = Checks.cave("cup 30 0 12;");
        int[][] rows = {{0, 13, 0}, {1, 7, 0}, {2, 5, 0}, {3, 4, 0}, {4, 3, 0}, {5, 2, 1}, {6, 2, 0}, {7, 2, 1}, {8, 2, 2},
            {9, 1, 3}, {10, 1, 2}, {11, 1, 1}, {12, 1, 0}, {13, 1, 1}};
        for (int[] row : rows) {
            CHECKS.due(row[0] + " times: which", row[1], () -> x.toCrack(0, row[0], 1, 0));
            CHECKS.due(row[0] + " times: by how much", row[2], () -> x.toCrack(0, row[0], 1, 1));
        }
    }

    /** Cracked so, "FILL is kept to one less than it"; leaks and frost are asked. */
    private static void toCrackFill() {
        DripCups x = Checks.cave("cup 30 29 1;");
        for (int times = 0; times <= 1; times++) {
            int t = times;
            CHECKS.due("whatever it holds it tips: which for " + t, 1, () -> x.toCrack(0, t, 1, 0));
            CHECKS.due("by how much for " + t, 1 - t, () -> x.toCrack(0, t, 1, 1));
        }
        DripCups frozen = Checks.cave("cup 30 29 1;frost 1;");
        CHECKS.due("frozen it never tips", 0, () -> frozen.toCrack(0, 0, 60, 1));
        CHECKS.due("nor once", 1, () -> frozen.toCrack(0, 1, 60, 1));
    }

    // ---- promise 24 ----

    /** "NoSuchElementException: another what. IllegalArgumentException (behind that): not 1 to 60." */
    private static void officeThrows() {
        for (int k : new int[] {0, 61, -1, 120, LEAST, MOST}) {
            illegal("office " + k + " 0", x -> x.office(k, 0));
            illegal("office " + k + " 1", x -> x.office(k, 1));
            noSuch("office what 2, " + k, x -> x.office(k, 2));
            noSuch("office what -1, " + k, x -> x.office(k, -1));
        }
        for (int what : new int[] {-1, 2, LEAST, MOST}) {
            noSuch("office what " + what, x -> x.office(1, what));
        }
    }

    /** "the CUP that tips in an HOUR nearest to the k-th one (1 to 60; HOURS from the 1st to the 120th ..); none" */
    private static void officeEnds() {
        for (int hour : new int[] {1, 2, 59, 60, 61, 119, 120}) {
            DripCups x = tipsIn(hour, hour);
            for (int k : new int[] {1, 2, 59, 60}) {
                CHECKS.due("tips in " + hour + ", asked " + k, hour, () -> x.office(k, 1));
                CHECKS.due("tips in " + hour + ", asked " + k + ": which", 0, () -> x.office(k, 0));
            }
        }
        DripCups late = tipsIn(121, 121);
        CHECKS.due("in the 121st: no hour", -1, () -> late.office(60, 1));
        CHECKS.due("in the 121st: no cup", -1, () -> late.office(60, 0));
        late.hours(1);
        CHECKS.due("an hour later it is the 120th", 120, () -> late.office(60, 1));
    }

    /** "(.. the earlier one of two that are as near; of CUPS the least)" */
    private static void officeAsNear() {
        DripCups x = tipsIn(29, 31);
        CHECKS.due("as near: the earlier one", 29, () -> x.office(30, 1));
        CHECKS.due("nearer: the later one", 31, () -> x.office(31, 1));
        DripCups far = tipsIn(1, 119);
        CHECKS.due("59 ahead and 59 behind", 1, () -> far.office(60, 1));
        DripCups farther = tipsIn(1, 118);
        CHECKS.due("59 ahead and 58 behind", 118, () -> farther.office(60, 1));
        // 0 tips in the 31st hour only, 1 and 2 in the 29th
        DripCups y = Checks.cave("cup 1 0 1;cup 1 0 1;cup 1 0 1;frost not (cup=0 and hour=30 or 0<cup and hour=28);");
        CHECKS.due("the earlier hour goes ahead of the lesser cup", 1, () -> y.office(30, 0));
        CHECKS.due("in that hour", 29, () -> y.office(30, 1));
        CHECKS.due("of cups the least", 1, () -> y.office(1, 0));
        CHECKS.due("in the later one", 0, () -> y.office(60, 0));
        DripCups nine = Checks.cave("cup 9 0 0;".repeat(8) + "cup 1 0 1;");
        CHECKS.due("the ninth", 8, () -> nine.office(1, 0));
    }

    // ---- promise 36 ----

    /** "IllegalArgumentException (behind NoSuchElementException): not 0 to 1000000." */
    private static void giverThrows() {
        for (int hours : NOT_TO_A_MILLION) {
            illegal("giver " + hours, x -> x.giver(1, hours));
            noSuch("giver 3 " + hours, x -> x.giver(3, hours));
        }
        for (int cup : NO_CUPS) {
            noSuch("giver " + cup, x -> x.giver(cup, 1));
        }
    }

    /** "of those from which drops go straight into it the one that gives most in so many HOURS .. (of like ones the least)" */
    private static void giverEnds() {
        DripCups x = Checks.cave("cup 1 0 1;cup 1 0 1;cup 1 0 9;cup 9 0 0;pipe 0 3;pipe 1 3;");
        CHECKS.due("none leads into the first", -1, () -> x.giver(0, 1000000));
        CHECKS.due("in no hours: the least", 0, () -> x.giver(3, 0));
        CHECKS.due("of like ones the least", 0, () -> x.giver(3, 1000000));
        x.lead(0, 1);
        CHECKS.due("only straight ones", 1, () -> x.giver(3, 1000000));
        x.lead(1, -1);
        CHECKS.due("none leads there any more", -1, () -> x.giver(3, 1000000));
        DripCups y = Checks.cave("cup 1 0 2;cup 1 0 1;cup 9 0 0;cup 9 0 0;pipe 0 2 3;pipe 1 3;");
        CHECKS.due("half of two is as much as one: the least", 0, () -> y.giver(3, 1000000));
        y.pour(0, 1);
        CHECKS.due("the second one's turn: as much", 0, () -> y.giver(3, 1));
        DripCups second = Checks.cave("cup 1 0 1;cup 1 0 1;cup 9 0 0;cup 9 0 0;pipe 0 3;pipe 1 2 3;");
        CHECKS.due("as the second one of two: less", 0, () -> second.giver(3, 1000000));
        second.crack(0, 2);
        CHECKS.due("as the second one of two: as much, so the least", 0, () -> second.giver(3, 1000000));
        second.crack(0, 3);
        CHECKS.due("as the second one of two: more", 1, () -> second.giver(3, 1000000));
        CHECKS.due("as the second one of two: not yet", 0, () -> second.giver(3, 1));
        y.crack(0, 2);
        CHECKS.due("a quarter is less", 1, () -> y.giver(3, 1000000));
        // the one tips with each tenth drop, the other one an hour ahead of it
        DripCups last = Checks.cave("cup 10 0 1;cup 10 1 1;cup 9 0 0;pipe 0 2;pipe 1 2;");
        CHECKS.due("in 999998 none more", 0, () -> last.giver(2, 999998));
        CHECKS.due("in 999999 one more", 1, () -> last.giver(2, 999999));
        CHECKS.due("in 1000000 as many", 0, () -> last.giver(2, 1000000));
    }

    // ---- promise 37 ----

    /** "IllegalArgumentException (behind NoSuchElementException): not 1 to 60." */
    private static void toPourThrows() {
        for (int k : new int[] {0, 61, -1, LEAST, MOST}) {
            illegal("toPour " + k, x -> x.toPour(0, k));
            noSuch("toPour 3 " + k, x -> x.toPour(3, k));
        }
        for (int cup : NO_CUPS) {
            noSuch("toPour " + cup, x -> x.toPour(cup, 1));
        }
    }

    /** "TO POUR: the fewest drops (0 to 50) that must be POURED into a CUP now, so that it tips in the k-th HOUR (1 to 60)" */
    private static void toPourEnds() {
        DripCups x = Checks.cave("cup 30 0 1;");
        CHECKS.due("in the 1st", 29, () -> x.toPour(0, 1));
        CHECKS.due("in the 2nd", 28, () -> x.toPour(0, 2));
        CHECKS.due("in the 29th", 1, () -> x.toPour(0, 29));
        CHECKS.due("in the 30th", 0, () -> x.toPour(0, 30));
        CHECKS.due("in the 31st", 29, () -> x.toPour(0, 31));
        CHECKS.due("in the 59th", 1, () -> x.toPour(0, 59));
        CHECKS.due("in the 60th", 0, () -> x.toPour(0, 60));
        DripCups none = Checks.cave("cup 2 1 0;");
        CHECKS.due("the pour itself doesn't count", -1, () -> none.toPour(0, 1));
        // the spring thaws with the tenth tip, for which fifty drops are needed
        DripCups fifty = Checks.cave("cup 5 0 5;frost tips<10;");
        CHECKS.due("fifty", 50, () -> fifty.toPour(0, 1));
        DripCups more = Checks.cave("cup 5 0 5;frost tips<11;");
        CHECKS.due("more than fifty", -1, () -> more.toPour(0, 1));
        more.pour(0, 1);
        CHECKS.due("fifty and the one that is in it are not enough", -1, () -> more.toPour(0, 1));
        more.pour(0, 4);
        CHECKS.due("it has tipped once: fifty are enough", 50, () -> more.toPour(0, 1));
    }

    /** A pour tips those below too, and changes nothing here. */
    private static void toPourPours() {
        DripCups x = Checks.cave("cup 2 0 0;cup 9 0 0;pipe 0 1;frost 0;");
        CHECKS.due("nothing comes", -1, () -> x.toPour(0, 1));
        CHECKS.due("nothing was poured: fill", 0, () -> x.count(3));
        CHECKS.due("nothing was poured: tips", 0, () -> x.count(4));
        CHECKS.due("nothing was poured: acts", 0, () -> x.count(7));
    }

    // ---- promise 38 ----

    private static void waysThrows() {
        for (int cup : NO_CUPS) {
            noSuch("ways from " + cup, x -> x.ways(cup, 0));
            noSuch("ways to " + cup, x -> x.ways(0, cup));
            noSuch("ways from and to " + cup, x -> x.ways(cup, cup));
        }
    }

    /** "WAYS from one CUP to another one: how many rows of PIPES there are (to itself 1; of PIPES into two CUPS both)." */
    private static void waysEnds() {
        DripCups none = Checks.cave("cup 9 0 0;".repeat(9));
        DripCups chain = Checks.cave("cup 9 0 0;".repeat(9) + CHAIN);
        for (int from = 0; from < 9; from++) {
            for (int to = 0; to < 9; to++) {
                int a = from;
                int b = to;
                CHECKS.due("no pipes " + a + " " + b, a == b ? 1 : 0, () -> none.ways(a, b));
                CHECKS.due("a chain " + a + " " + b, a <= b ? 1 : 0, () -> chain.ways(a, b));
            }
        }
        DripCups two = Checks.cave("cup 9 0 0;".repeat(4) + "pipe 0 1 2;pipe 1 3;pipe 2 3;");
        CHECKS.due("both of two", 2, () -> two.ways(0, 3));
        two.lead(0, 1);
        CHECKS.due("as it is led now", 1, () -> two.ways(0, 3));
        two.lead(0, -1);
        CHECKS.due("on the floor", 0, () -> two.ways(0, 3));
        DripCups most = Checks.cave("cup 9 0 0;".repeat(9)
            + "pipe 0 1 2;pipe 1 2 3;pipe 2 3 4;pipe 3 4 5;pipe 4 5 6;pipe 5 6 7;pipe 6 7 8;pipe 7 8;");
        int[] due = {1, 1, 2, 3, 5, 8, 13, 21, 34};
        for (int to = 0; to < 9; to++) {
            int b = to;
            CHECKS.due("the most to " + b, due[b], () -> most.ways(0, b));
        }
        CHECKS.due("no ways are left in how deep it is", 8, () -> most.cup(0, 7));
        CHECKS.due("nor of the last but one", 1, () -> most.cup(7, 7));
        CHECKS.due("nor of the last", 0, () -> most.cup(8, 7));
    }
}
