import java.util.Arrays;
import java.util.NoSuchElementException;

/**
 * A cave of cups in tiers that springs drip into, as ../shared/DOC.md promises it.
 * All rows are made with the object and used again: no call makes an array.
 */
public final class DripCups {
    public static final int NONE = -1;

    private static final int MOST_CUPS = 9;
    private static final int MOST_HOLDS = 30;
    private static final int MOST_SPRING = 20;
    private static final int MOST_BYTES = 700;
    private static final int MOST_ACTS = 40;
    private static final int MOST_HEARD = 8;
    private static final int MOST_TIPS = 1000000000;
    private static final int LAST_HOUR = 9999;
    private static final int FLOOR_SIGN = 9;

    private static final int AHEAD = 200;
    private static final int FAR_AHEAD = 1000000;
    private static final int MEETING_HOURS = 5000;
    private static final int PLAN_HOURS = 60;
    private static final int OFFICE_HOURS = 120;
    private static final int HEARD_HOURS = 40;
    private static final int COLD_HOURS = 5;
    private static final int GAME_HOURS = 12;
    private static final int MOST_POURED = 50;

    private static final int REFUSED_TEXTS = 0;
    private static final int REFUSED_ACTS = 1;
    private static final int REFUSED_HEARD = 2;

    private final Reader reader = new Reader();
    private final Minutes now = new Minutes();
    private final Minutes kept = new Minutes();
    private final Drip drip = new Drip();
    private final Floors floors = new Floors();
    private final Suspicion suspicion = new Suspicion();
    private final int[] refused = new int[3];
    private final int[] gains = new int[4];
    private final int[] otherGains = new int[4];
    private boolean hasImage = false;
    private int faultPlace = NONE;
    private int seed = 0;

    public DripCups() {
    }

    // ---- the text ----

    public int feed(int a, int b, int c, int d, int e) {
        Tokens tape = reader.tokens;
        if (tape.size + 20 > MOST_BYTES) {
            return NONE;
        }
        tape.append(a);
        tape.append(b);
        tape.append(c);
        tape.append(d);
        tape.append(e);
        return tape.size;
    }

    public int cave(int n) throws IllegalArgumentException {
        needRange(n, 0, reader.tokens.size);
        int fault = reader.read(n);
        reader.tokens.size = 0;
        if (fault != 0) {
            faultPlace = reader.place;
            refused[REFUSED_TEXTS]++;
            return fault;
        }
        Cave old = drip.told;
        drip.told = reader.cave;
        reader.cave = old;
        faultPlace = NONE;
        now.begin(drip.told.start);
        hasImage = false;
        return 0;
    }

    public int fault() {
        return faultPlace;
    }

    // ---- what is now ----

    public int count(int what) throws NoSuchElementException {
        needWhat(what, 12);
        switch (what) {
            case 0: return drip.told.cups;
            case 1: return now.cups.hour;
            case 2: return now.cups.plugged;
            case 3: return now.cups.fillOfAll();
            case 4: return now.cups.tipsOfAll();
            case 5: return now.cups.roots(drip.told.cups);
            case 6: return alikeCouples();
            case 7: return now.acts.kept;
            case 8: return now.heard.many;
            case 9: return reader.tokens.size;
            case 10: return refused[REFUSED_TEXTS];
            case 11: return refused[REFUSED_ACTS];
            default: return refused[REFUSED_HEARD];
        }
    }

    public int cup(int cup, int what) throws NoSuchElementException {
        needCup(cup);
        needWhat(what, 8);
        Cups cups = now.cups;
        switch (what) {
            case 0: return cups.holds[cup];
            case 1: return cups.fill[cup];
            case 2: return drip.told.spring[cup];
            case 3: return cups.intoOfDrop(cup, 0);
            case 4: return cups.intoOfDrop(cup, 1);
            case 5: return cups.tips[cup];
            case 6: return cups.isPlugged(cup) ? 1 : 0;
            case 7: return cups.deepest(cup);
            default: return cups.holds[cup] - cups.fill[cup];
        }
    }

    // ---- acts ----

    public int hours(int many) {
        if (many < 1 || many > 20 || now.cups.hour + many > LAST_HOUR) {
            return refuseAct();
        }
        now.acts.keep(now.cups);
        drip.workOn(now.cups);
        drip.goOn(many);
        return now.cups.hour;
    }

    public boolean lead(int cup, int into) throws NoSuchElementException {
        needCup(cup);
        if (into != NONE) {
            needCup(into);
        }
        if (now.cups.leadsJust(cup, into) || (into != NONE && into <= cup)) {
            refuseAct();
            return false;
        }
        now.acts.keep(now.cups);
        now.cups.setInto(cup, into);
        return true;
    }

    public boolean plug(int cup, boolean is) throws NoSuchElementException {
        needCup(cup);
        if (now.cups.isPlugged(cup) == is) {
            refuseAct();
            return false;
        }
        now.acts.keep(now.cups);
        now.cups.setPlugged(cup, is);
        return true;
    }

    public int pour(int cup, int drops) throws NoSuchElementException {
        needCup(cup);
        if (drops < 1 || drops > MOST_POURED) {
            return refuseAct();
        }
        now.acts.keep(now.cups);
        drip.workOn(now.cups);
        drip.fillUp(cup, drops);
        return drip.times[cup];
    }

    public int crack(int cup, int holds) throws NoSuchElementException {
        needCup(cup);
        int held = now.cups.holds[cup];
        if (holds < 1 || holds > MOST_HOLDS || holds == held) {
            return refuseAct();
        }
        now.acts.keep(now.cups);
        now.cups.setHolds(cup, holds);
        return held;
    }

    public int undo() {
        if (now.acts.kept == 0) {
            return NONE;
        }
        now.acts.takeBack(now.cups);
        return now.acts.kept;
    }

    // ---- what comes, if only hours go by ----

    public int then(int cup, int hours, int what) throws NoSuchElementException, IllegalArgumentException {
        needCup(cup);
        needWhat(what, 1);
        needRange(hours, 0, AHEAD);
        lookAhead(hours);
        return what == 0 ? drip.cups.fill[cup] : drip.times[cup];
    }

    public int tipping(int k) throws IllegalArgumentException {
        needRange(k, 1, AHEAD);
        lookAhead(k);
        return drip.tipped;
    }

    public int next(int cup) throws NoSuchElementException {
        needCup(cup);
        return firstHourOfAll(1 << cup);
    }

    public int together(int some) throws IllegalArgumentException {
        needCups(some);
        return firstHourOfAll(some);
    }

    public int sound(int hours, int what) throws NoSuchElementException, IllegalArgumentException {
        needWhat(what, 1);
        needRange(hours, 1, AHEAD);
        return what == 0 ? longestSilence(hours) : loudestHour(hours);
    }

    // ---- were there no leaks and no frost ----

    public int fallen(int cup, int hours) throws NoSuchElementException, IllegalArgumentException {
        needCup(cup);
        needRange(hours, 0, FAR_AHEAD);
        floors.reckon(drip.told, now.cups, hours);
        return floors.times[cup];
    }

    public int nth(int cup, int n) throws NoSuchElementException, IllegalArgumentException {
        needCup(cup);
        needRange(n, 1, 100000000);
        int hoursBefore = 0;
        for (int step = 1 << 19; step > 0; step >>= 1) {
            int tried = hoursBefore + step;
            if (tried <= FAR_AHEAD) {
                floors.reckon(drip.told, now.cups, tried);
                if (floors.times[cup] < n) {
                    hoursBefore = tried;
                }
            }
        }
        return hoursBefore < FAR_AHEAD ? hoursBefore + 1 : NONE;
    }

    public int meeting(int some) throws IllegalArgumentException {
        needCups(some);
        floors.reckon(drip.told, now.cups, 0);
        for (int hour = 1; hour <= MEETING_HOURS; hour++) {
            floors.keepTimes();
            floors.reckon(drip.told, now.cups, hour);
            if (floors.allTippedSince(some)) {
                return hour;
            }
        }
        return NONE;
    }

    public int flow(int cup, int hours) throws NoSuchElementException, IllegalArgumentException {
        needCup(cup);
        needRange(hours, 0, FAR_AHEAD);
        floors.reckon(drip.told, now.cups, hours);
        return floors.inflow[cup];
    }

    // ---- pipes and plans ----

    public int tier(int cup, int what) throws NoSuchElementException {
        needCup(cup);
        needWhat(what, 1);
        return what == 0 ? now.cups.allAbove(cup) : now.cups.allBelow(cup);
    }

    public int toCrack(int cup, int times, int hours, int what)
            throws NoSuchElementException, IllegalArgumentException {
        needCup(cup);
        needWhat(what, 1);
        needRange(hours, 1, PLAN_HOURS);
        if (times < 0) {
            throw new IllegalArgumentException("times below 0");
        }
        int best = NONE;
        int leastOff = 0;
        for (int holds = 1; holds <= MOST_HOLDS; holds++) {
            lookAhead(0);
            drip.cups.setHolds(cup, holds);
            drip.goOn(hours);
            int off = Math.abs(drip.times[cup] - times);
            if (best == NONE || off < leastOff) {
                best = holds;
                leastOff = off;
            }
        }
        return what == 0 ? best : leastOff;
    }

    public int office(int k, int what) throws NoSuchElementException, IllegalArgumentException {
        needWhat(what, 1);
        needRange(k, 1, PLAN_HOURS);
        int bestHour = NONE;
        int bestCups = 0;
        lookAhead(0);
        for (int hour = 1; hour <= OFFICE_HOURS; hour++) {
            drip.goOn(1);
            boolean nearer = bestHour == NONE || Math.abs(hour - k) < Math.abs(bestHour - k);
            if (drip.tipped != 0 && nearer) {
                bestHour = hour;
                bestCups = drip.tipped;
            }
        }
        return what == 0 ? leastOf(bestCups) : bestHour;
    }

    // ---- what is heard ----

    public int hear(int cup, int k, boolean tips) throws NoSuchElementException {
        needCup(cup);
        if (now.heard.many >= MOST_HEARD || k < 1 || k > HEARD_HOURS) {
            refused[REFUSED_HEARD]++;
            return NONE;
        }
        now.heard.note(cup, k, tips);
        return now.heard.many;
    }

    public void forget() {
        now.heard.many = 0;
    }

    public int led(int what) throws NoSuchElementException {
        needWhat(what, 2);
        if (what == 2) {
            return suspicion.fitsAsItIs(drip, now) ? 1 : 0;
        }
        suspicion.search(drip, now);
        return what == 0 ? suspicion.found : suspicion.first;
    }

    public int listen(int what) throws NoSuchElementException {
        needWhat(what, 1);
        suspicion.search(drip, now);
        int best = NONE;
        int most = 0;
        for (int hour = 1; hour <= HEARD_HOURS; hour++) {
            int unlike = suspicion.unlikeIn(hour);
            if (unlike > most) {
                best = hour;
                most = unlike;
            }
        }
        return what == 0 ? best : most;
    }

    // ---- chance and play ----

    public int cold(int cup, int hours, int tenths) throws NoSuchElementException, IllegalArgumentException {
        needCup(cup);
        needRange(hours, 1, COLD_HOURS);
        needRange(tenths, 0, 10);
        int likely = 0;
        for (int frozen = 0; frozen < (1 << hours); frozen++) {
            int weight = 1;
            lookAhead(0);
            for (int hour = 0; hour < hours; hour++) {
                boolean cold = ((frozen >> hour) & 1) == 1;
                weight *= cold ? tenths : 10 - tenths;
                drip.passHour(cold ? Drip.FROZEN : Drip.CLEAR);
            }
            if (drip.times[cup] > 0) {
                likely += weight;
            }
        }
        return likely;
    }

    public int game(int cup, int other, int what) throws NoSuchElementException, IllegalArgumentException {
        needCup(cup);
        needCup(other);
        needWhat(what, 1);
        if (cup == other) {
            throw new IllegalArgumentException("both are one");
        }
        playAll(cup, other);
        int resting = 0;
        int first = NONE;
        for (int couple = 0; couple < 4; couple++) {
            if (gains[couple] >= gains[couple ^ 2] && otherGains[couple] >= otherGains[couple ^ 1]) {
                resting++;
                if (first == NONE) {
                    first = (couple >> 1) * 10 + (couple & 1);
                }
            }
        }
        return what == 0 ? resting : first;
    }

    public int years(int seed, int n, int what) throws NoSuchElementException, IllegalArgumentException {
        needWhat(what, 2);
        needRange(n, 0, AHEAD);
        this.seed = seed;
        lookAhead(0);
        for (int hour = 0; hour < n; hour++) {
            drawAct();
            drip.goOn(1);
        }
        switch (what) {
            case 0: return drip.timesOfAll();
            case 1: return drip.cups.fillOfAll();
            default: return Integer.bitCount(drip.neverTipped());
        }
    }

    // ---- more of what comes ----

    public int later(int hours, int what) throws NoSuchElementException, IllegalArgumentException {
        needWhat(what, 2);
        needRange(hours, 0, AHEAD);
        lookAhead(hours);
        switch (what) {
            case 0: return mostOf(drip.cups.fill);
            case 1: return dryCups(drip.cups);
            default: return drip.lost;
        }
    }

    public int oftenest(int hours) throws IllegalArgumentException {
        needRange(hours, 1, AHEAD);
        lookAhead(hours);
        return mostOf(drip.times);
    }

    public int round() {
        lookAhead(0);
        for (int hour = 1; hour <= AHEAD; hour++) {
            drip.goOn(1);
            if (drip.cups.filledAs(now.cups)) {
                return hour;
            }
        }
        return NONE;
    }

    public int pause(int cup) throws NoSuchElementException {
        needCup(cup);
        int firstHour = NONE;
        lookAhead(0);
        for (int hour = 1; hour <= AHEAD; hour++) {
            drip.goOn(1);
            if (has(drip.tipped, cup)) {
                if (firstHour != NONE) {
                    return hour - firstHour;
                }
                firstHour = hour;
            }
        }
        return NONE;
    }

    public int giver(int cup, int hours) throws NoSuchElementException, IllegalArgumentException {
        needCup(cup);
        needRange(hours, 0, FAR_AHEAD);
        floors.reckon(drip.told, now.cups, hours);
        int best = NONE;
        int most = 0;
        for (int from = 0; from < cup; from++) {
            if (has(now.cups.straightBelow(from), cup)) {
                int gives = now.cups.dropsInto(from, cup, floors.times[from]);
                if (best == NONE || gives > most) {
                    best = from;
                    most = gives;
                }
            }
        }
        return best;
    }

    public int toPour(int cup, int k) throws NoSuchElementException, IllegalArgumentException {
        needCup(cup);
        needRange(k, 1, PLAN_HOURS);
        for (int drops = 0; drops <= MOST_POURED; drops++) {
            lookAhead(0);
            drip.fillUp(cup, drops);
            drip.goOn(k);
            if (has(drip.tipped, cup)) {
                return drops;
            }
        }
        return NONE;
    }

    public int ways(int cup, int other) throws NoSuchElementException {
        needCup(cup);
        needCup(other);
        return now.cups.rowsOfPipes(cup, other);
    }

    public int chorus(int some, int hours) throws IllegalArgumentException {
        needCups(some);
        needRange(hours, 1, AHEAD);
        int many = 0;
        lookAhead(0);
        for (int hour = 0; hour < hours; hour++) {
            drip.goOn(1);
            if ((drip.tipped & some) == some) {
                many++;
            }
        }
        return many;
    }

    public int never(int hours) throws IllegalArgumentException {
        needRange(hours, 1, AHEAD);
        lookAhead(hours);
        return drip.neverTipped();
    }

    public int swell(int cup, int hours) throws NoSuchElementException, IllegalArgumentException {
        needCup(cup);
        needRange(hours, 0, AHEAD);
        lookAhead(0);
        int most = drip.cups.fill[cup];
        for (int hour = 0; hour < hours; hour++) {
            drip.goOn(1);
            most = Math.max(most, drip.cups.fill[cup]);
        }
        return most;
    }

    public void image() {
        kept.copy(now);
        hasImage = true;
    }

    public boolean restore() {
        if (!hasImage) {
            return false;
        }
        now.copy(kept);
        return true;
    }

    // ---- what the calls are refused by ----

    private void needCup(int cup) {
        if (cup < 0 || cup >= drip.told.cups) {
            throw new NoSuchElementException("no such cup");
        }
    }

    private static void needWhat(int what, int last) {
        if (what < 0 || what > last) {
            throw new NoSuchElementException("no such what");
        }
    }

    private static void needRange(int number, int least, int most) {
        if (number < least || number > most) {
            throw new IllegalArgumentException("out of range");
        }
    }

    private void needCups(int some) {
        if (some < 0 || some >= (1 << drip.told.cups)) {
            throw new IllegalArgumentException("not bits of cups");
        }
    }

    private int refuseAct() {
        refused[REFUSED_ACTS]++;
        return NONE;
    }

    // ---- parts of the calls ----

    private void lookAhead(int hours) {
        drip.workOnCopy(now.cups);
        drip.goOn(hours);
    }

    private int alikeCouples() {
        Cups cups = now.cups;
        int many = 0;
        for (int one = 0; one < drip.told.cups; one++) {
            for (int two = one + 1; two < drip.told.cups; two++) {
                boolean alike = cups.holds[one] == cups.holds[two] && cups.fill[one] == cups.fill[two];
                if (alike && drip.told.spring[one] == drip.told.spring[two]) {
                    many++;
                }
            }
        }
        return many;
    }

    private int firstHourOfAll(int some) {
        lookAhead(0);
        for (int hour = 1; hour <= AHEAD; hour++) {
            drip.goOn(1);
            if ((drip.tipped & some) == some) {
                return hour;
            }
        }
        return NONE;
    }

    private int longestSilence(int hours) {
        int longest = 0;
        int row = 0;
        lookAhead(0);
        for (int hour = 0; hour < hours; hour++) {
            drip.goOn(1);
            row = drip.tipped == 0 ? row + 1 : 0;
            longest = Math.max(longest, row);
        }
        return longest;
    }

    private int loudestHour(int hours) {
        int loudest = NONE;
        int most = -1;
        lookAhead(0);
        for (int hour = 1; hour <= hours; hour++) {
            drip.goOn(1);
            int many = Integer.bitCount(drip.tipped);
            if (many > most) {
                loudest = hour;
                most = many;
            }
        }
        return loudest;
    }

    /** The couple's bits: 2 if the first one plugs, 1 if the other one does. */
    private void playAll(int cup, int other) {
        for (int couple = 0; couple < 4; couple++) {
            int plugs = couple >> 1;
            int otherPlugs = couple & 1;
            lookAhead(0);
            if (plugs == 1) {
                drip.cups.setPlugged(cup, true);
            }
            if (otherPlugs == 1) {
                drip.cups.setPlugged(other, true);
            }
            drip.goOn(GAME_HOURS);
            int ahead = drip.times[cup] - drip.times[other];
            gains[couple] = ahead / 2 - plugs;
            otherGains[couple] = -ahead / 2 - otherPlugs;
        }
    }

    private int draw(int n) {
        seed = seed * 1103515245 + 12345;
        return n > 0 ? ((seed >> 16) & 0x7fff) % n : 0;
    }

    private void drawAct() {
        int act = draw(6);
        if (act > 2 || drip.told.cups == 0) {
            return;
        }
        int cup = draw(drip.told.cups);
        if (act == 0) {
            drip.cups.setPlugged(cup, !drip.cups.isPlugged(cup));
        } else if (act == 1) {
            drip.cups.setHolds(cup, draw(30) + 1);
        } else {
            int into = draw(drip.told.cups);
            drip.cups.setInto(cup, into > cup ? into : NONE);
        }
    }

    /** The first cup of which the row's number is the greatest. */
    private int mostOf(int[] row) {
        int best = NONE;
        for (int cup = 0; cup < drip.told.cups; cup++) {
            if (best == NONE || row[cup] > row[best]) {
                best = cup;
            }
        }
        return best;
    }

    private int dryCups(Cups cups) {
        int dry = 0;
        for (int cup = 0; cup < drip.told.cups; cup++) {
            if (cups.fill[cup] == 0) {
                dry |= 1 << cup;
            }
        }
        return dry;
    }

    private static int leastOf(int bits) {
        for (int cup = 0; cup < MOST_CUPS; cup++) {
            if (has(bits, cup)) {
                return cup;
            }
        }
        return NONE;
    }

    private static boolean has(int bits, int cup) {
        return ((bits >> cup) & 1) == 1;
    }

    /** No bit for the floor. */
    private static int bitOf(int cup) {
        return cup >= 0 && cup < MOST_CUPS ? 1 << cup : 0;
    }

    /** What acts change. Rows of cups that the cave hasn't stay empty, hold 1 and have no pipes. */
    private static final class Cups {
        static final int ROW = 3 + 5 * MOST_CUPS;

        final int[] holds = new int[MOST_CUPS];
        final int[] fill = new int[MOST_CUPS];
        final int[] first = new int[MOST_CUPS];
        final int[] second = new int[MOST_CUPS];
        final int[] tips = new int[MOST_CUPS];
        final int[] work = new int[MOST_CUPS];
        int hour = 0;
        int plugged = 0;
        /** Bits of the cups whose next drop goes into the second one. */
        int turns = 0;

        Cups() {
            clear();
        }

        void clear() {
            Arrays.fill(holds, 1);
            Arrays.fill(fill, 0);
            Arrays.fill(first, NONE);
            Arrays.fill(second, NONE);
            Arrays.fill(tips, 0);
            hour = 0;
            plugged = 0;
            turns = 0;
        }

        void copy(Cups other) {
            System.arraycopy(other.holds, 0, holds, 0, MOST_CUPS);
            System.arraycopy(other.fill, 0, fill, 0, MOST_CUPS);
            System.arraycopy(other.first, 0, first, 0, MOST_CUPS);
            System.arraycopy(other.second, 0, second, 0, MOST_CUPS);
            System.arraycopy(other.tips, 0, tips, 0, MOST_CUPS);
            hour = other.hour;
            plugged = other.plugged;
            turns = other.turns;
        }

        void save(int[] rows, int at) {
            if (at < 0 || at + ROW > rows.length) {
                return;
            }
            rows[at] = hour;
            rows[at + 1] = plugged;
            rows[at + 2] = turns;
            System.arraycopy(holds, 0, rows, at + 3, MOST_CUPS);
            System.arraycopy(fill, 0, rows, at + 3 + MOST_CUPS, MOST_CUPS);
            System.arraycopy(first, 0, rows, at + 3 + 2 * MOST_CUPS, MOST_CUPS);
            System.arraycopy(second, 0, rows, at + 3 + 3 * MOST_CUPS, MOST_CUPS);
            System.arraycopy(tips, 0, rows, at + 3 + 4 * MOST_CUPS, MOST_CUPS);
        }

        void load(int[] rows, int at) {
            if (at < 0 || at + ROW > rows.length) {
                return;
            }
            hour = rows[at];
            plugged = rows[at + 1];
            turns = rows[at + 2];
            System.arraycopy(rows, at + 3, holds, 0, MOST_CUPS);
            System.arraycopy(rows, at + 3 + MOST_CUPS, fill, 0, MOST_CUPS);
            System.arraycopy(rows, at + 3 + 2 * MOST_CUPS, first, 0, MOST_CUPS);
            System.arraycopy(rows, at + 3 + 3 * MOST_CUPS, second, 0, MOST_CUPS);
            System.arraycopy(rows, at + 3 + 4 * MOST_CUPS, tips, 0, MOST_CUPS);
        }

        int fillOfAll() {
            int sum = 0;
            for (int cup = 0; cup < MOST_CUPS; cup++) {
                sum += fill[cup];
            }
            return sum;
        }

        int tipsOfAll() {
            int sum = 0;
            for (int cup = 0; cup < MOST_CUPS; cup++) {
                sum = Math.min(MOST_TIPS, sum + tips[cup]);
            }
            return sum;
        }

        boolean filledAs(Cups other) {
            for (int cup = 0; cup < MOST_CUPS; cup++) {
                if (fill[cup] != other.fill[cup]) {
                    return false;
                }
            }
            return true;
        }

        boolean isPlugged(int cup) {
            return has(plugged, cup);
        }

        void setPlugged(int cup, boolean is) {
            plugged = is ? plugged | bitOf(cup) : plugged & ~bitOf(cup);
        }

        void setHolds(int cup, int drops) {
            holds[cup] = drops;
            fill[cup] = Math.min(fill[cup], drops - 1);
        }

        void setInto(int cup, int into) {
            first[cup] = into;
            second[cup] = NONE;
            turns &= ~bitOf(cup);
        }

        boolean leadsJust(int cup, int into) {
            return first[cup] == into && second[cup] == NONE;
        }

        /** Where the next drop (ahead 0), or the one behind it (1), goes. */
        int intoOfDrop(int cup, int ahead) {
            if (second[cup] == NONE) {
                return first[cup];
            }
            int turn = (turns >> cup) + ahead;
            return (turn & 1) == 0 ? first[cup] : second[cup];
        }

        /** How many of a cup's next drops go into the first one. */
        int dropsIntoFirst(int cup, int drops) {
            if (second[cup] == NONE) {
                return drops;
            }
            int firstIsNext = 1 - ((turns >> cup) & 1);
            return (drops + firstIsNext) / 2;
        }

        int dropsInto(int cup, int into, int drops) {
            int toFirst = dropsIntoFirst(cup, drops);
            int sum = first[cup] == into ? toFirst : 0;
            return second[cup] == into ? sum + drops - toFirst : sum;
        }

        void passTurns(int cup, int drops) {
            if (second[cup] != NONE && (drops & 1) == 1) {
                turns ^= 1 << cup;
            }
        }

        int straightBelow(int cup) {
            return bitOf(first[cup]) | bitOf(second[cup]);
        }

        int allBelow(int cup) {
            int below = straightBelow(cup);
            for (int other = cup + 1; other < MOST_CUPS; other++) {
                if (has(below, other)) {
                    below |= straightBelow(other);
                }
            }
            return below;
        }

        int allAbove(int cup) {
            int aboveAndSelf = bitOf(cup);
            for (int other = cup - 1; other >= 0; other--) {
                if ((straightBelow(other) & aboveAndSelf) != 0) {
                    aboveAndSelf |= bitOf(other);
                }
            }
            return aboveAndSelf & ~bitOf(cup);
        }

        int roots(int cups) {
            int reached = 0;
            for (int cup = 0; cup < MOST_CUPS; cup++) {
                reached |= straightBelow(cup);
            }
            return ((1 << cups) - 1) & ~reached;
        }

        int deepest(int cup) {
            for (int from = MOST_CUPS - 1; from >= cup; from--) {
                work[from] = 0;
                for (int to = from + 1; to < MOST_CUPS; to++) {
                    if (has(straightBelow(from), to)) {
                        work[from] = Math.max(work[from], work[to] + 1);
                    }
                }
            }
            return work[cup];
        }

        int rowsOfPipes(int cup, int other) {
            for (int from = MOST_CUPS - 1; from >= cup; from--) {
                work[from] = from == other ? 1 : 0;
                for (int to = from + 1; to < MOST_CUPS; to++) {
                    if (has(straightBelow(from), to)) {
                        work[from] += work[to];
                    }
                }
            }
            return work[cup];
        }
    }

    /** The latest acts: how all was ahead of each. */
    private static final class Acts {
        final int[] rows = new int[MOST_ACTS * Cups.ROW];
        int kept = 0;

        void keep(Cups cups) {
            if (kept == MOST_ACTS) {
                System.arraycopy(rows, Cups.ROW, rows, 0, rows.length - Cups.ROW);
                kept--;
            }
            cups.save(rows, kept * Cups.ROW);
            kept++;
        }

        void takeBack(Cups cups) {
            if (kept > 0) {
                kept--;
                cups.load(rows, kept * Cups.ROW);
            }
        }

        void copy(Acts other) {
            System.arraycopy(other.rows, 0, rows, 0, other.kept * Cups.ROW);
            kept = other.kept;
        }
    }

    private static final class Heard {
        final int[] cups = new int[MOST_HEARD];
        final int[] hours = new int[MOST_HEARD];
        /** Bits of those by which the cup tipped. */
        int tips = 0;
        int many = 0;

        void note(int cup, int hour, boolean is) {
            if (many < MOST_HEARD) {
                cups[many] = cup;
                hours[many] = hour;
                tips = is ? tips | 1 << many : tips & ~(1 << many);
                many++;
            }
        }

        void copy(Heard other) {
            System.arraycopy(other.cups, 0, cups, 0, MOST_HEARD);
            System.arraycopy(other.hours, 0, hours, 0, MOST_HEARD);
            tips = other.tips;
            many = other.many;
        }

        /** Whether all that is heard of this hour is so, if these cups tip in it. */
        boolean agrees(int hour, int tipped) {
            for (int i = 0; i < many; i++) {
                if (hours[i] == hour && has(tipped, cups[i]) != has(tips, i)) {
                    return false;
                }
            }
            return true;
        }
    }

    /** All that an image keeps. */
    private static final class Minutes {
        final Cups cups = new Cups();
        final Acts acts = new Acts();
        final Heard heard = new Heard();

        void begin(Cups start) {
            cups.copy(start);
            acts.kept = 0;
            heard.many = 0;
        }

        void copy(Minutes other) {
            cups.copy(other.cups);
            acts.copy(other.acts);
            heard.copy(other.heard);
        }
    }

    /** What a text tells, and no act changes. */
    private static final class Cave {
        final int[] spring = new int[MOST_CUPS];
        final Cups start = new Cups();
        final Rule leaks = new Rule();
        final Rule frost = new Rule();
        int cups = 0;

        void clear() {
            Arrays.fill(spring, 0);
            start.clear();
            leaks.clear();
            frost.clear();
            cups = 0;
        }

        void addCup(int holds, int fill, int drops) {
            if (cups < MOST_CUPS) {
                start.holds[cups] = holds;
                start.fill[cups] = fill;
                spring[cups] = drops;
                cups++;
            }
        }

        /** How many drops of those that are in it a cup leaks. */
        int leak(Cups now, int cup) {
            if (!leaks.isTold) {
                return 0;
            }
            return Math.max(0, Math.min(now.fill[cup], leaks.value(now, cup, spring[cup])));
        }
    }

    /** An EXPR, the parts ahead of their sign: numbers as they are, all else below 0. */
    private static final class Rule {
        static final int FILL = -1;
        static final int HOLDS = -2;
        static final int SPRING = -3;
        static final int TIPS = -4;
        static final int CUP = -5;
        static final int HOUR = -6;
        static final int NOT = -7;
        static final int OR = -8;
        static final int AND = -9;
        static final int LESS = -10;
        static final int SAME = -11;
        static final int PLUS = -12;
        static final int MINUS = -13;
        static final int TIMES = -14;
        static final int BY = -15;

        final int[] code = new int[MOST_BYTES];
        /** At most five parts wait at once in each of six EXPRS within each other. */
        final int[] stack = new int[40];
        int size = 0;
        boolean isTold = false;

        void clear() {
            size = 0;
            isTold = false;
        }

        void add(int sign) {
            if (size < code.length) {
                code[size] = sign;
                size++;
            }
        }

        int value(Cups cups, int cup, int spring) {
            int top = 0;
            stack[0] = 0;
            for (int i = 0; i < size; i++) {
                int sign = code[i];
                if (sign > NOT) {
                    if (top < stack.length) {
                        stack[top] = sign >= 0 ? sign : valueOf(sign, cups, cup, spring);
                        top++;
                    }
                } else if (sign == NOT) {
                    if (top > 0) {
                        stack[top - 1] = stack[top - 1] == 0 ? 1 : 0;
                    }
                } else if (top > 1) {
                    top--;
                    stack[top - 1] = joined(sign, stack[top - 1], stack[top]);
                }
            }
            return stack[0];
        }

        private static int valueOf(int sign, Cups cups, int cup, int spring) {
            switch (sign) {
                case FILL: return cups.fill[cup];
                case HOLDS: return cups.holds[cup];
                case SPRING: return spring;
                case TIPS: return cups.tips[cup];
                case CUP: return cup;
                default: return cups.hour;
            }
        }

        private static int joined(int sign, int a, int b) {
            switch (sign) {
                case OR: return a != 0 || b != 0 ? 1 : 0;
                case AND: return a != 0 && b != 0 ? 1 : 0;
                case LESS: return a < b ? 1 : 0;
                case SAME: return a == b ? 1 : 0;
                case PLUS: return a + b;
                case MINUS: return a - b;
                case TIMES: return a * b;
                default: return b == 0 ? 0 : a / b;
            }
        }
    }

    /** The tape, and the token of it that is looked at. */
    private static final class Tokens {
        static final int END = 0;
        static final int WORD = 1;
        static final int NUMBER = 2;
        static final int OTHER = 3;
        static final int MOST_DIGITS = 4;

        final byte[] bytes = new byte[MOST_BYTES];
        int size = 0;
        int length = 0;
        int from = 0;
        int to = 0;
        int kind = END;
        int value = 0;

        void append(int four) {
            for (int shift = 24; shift >= 0; shift -= 8) {
                if (size < bytes.length) {
                    bytes[size] = (byte) (four >> shift);
                    size++;
                }
            }
        }

        void begin(int n) {
            length = Math.max(0, Math.min(n, bytes.length));
            to = 0;
            take();
        }

        /** Goes on to the next token. */
        void take() {
            from = to;
            while (from < length && isBlank(bytes[from])) {
                from++;
            }
            to = from;
            if (from >= length) {
                kind = END;
            } else if (isLetter(bytes[from])) {
                kind = WORD;
                while (to < length && isLetter(bytes[to])) {
                    to++;
                }
            } else if (isDigit(bytes[from])) {
                kind = NUMBER;
                value = 0;
                while (to < length && isDigit(bytes[to])) {
                    value = to - from < MOST_DIGITS ? value * 10 + bytes[to] - '0' : value;
                    to++;
                }
            } else {
                kind = OTHER;
                to++;
            }
        }

        boolean isTooLong() {
            return to - from > MOST_DIGITS;
        }

        boolean isWord(String word) {
            if (kind != WORD || word.length() != to - from) {
                return false;
            }
            for (int i = from; i < to; i++) {
                if (bytes[i] != word.charAt(i - from)) {
                    return false;
                }
            }
            return true;
        }

        boolean isSign(char sign) {
            return kind == OTHER && from < length && bytes[from] == sign;
        }

        private static boolean isBlank(int b) {
            return b == 32 || b == 10;
        }

        private static boolean isLetter(int b) {
            return b >= 'a' && b <= 'z';
        }

        private static boolean isDigit(int b) {
            return b >= '0' && b <= '9';
        }
    }

    /** Reads a text into a cave; behind the first fault nothing is read. */
    private static final class Reader {
        static final int MISPLACED = 1;
        static final int TOO_MUCH = 2;
        static final int UNKNOWN = 3;
        static final int BAD_PIPE = 4;
        static final int SECOND_RULE = 5;
        static final int MOST_WITHIN = 6;
        static final int MOST_NOTS = 6;

        final Tokens tokens = new Tokens();
        Cave cave = new Cave();
        Rule rule = cave.leaks;
        int fault = 0;
        int place = NONE;

        /** The fault, or 0. */
        int read(int length) {
            cave.clear();
            fault = 0;
            place = NONE;
            tokens.begin(length);
            for (int i = 0; i < MOST_BYTES && fault == 0 && tokens.kind != Tokens.END; i++) {
                if (tokens.isWord("cup")) {
                    readCup();
                } else if (tokens.isWord("pipe")) {
                    readPipe();
                } else if (tokens.isWord("leaks")) {
                    readRule(cave.leaks);
                } else if (tokens.isWord("frost")) {
                    readRule(cave.frost);
                } else {
                    fail(MISPLACED);
                }
            }
            return fault;
        }

        private int fail(int number) {
            if (fault == 0) {
                fault = number;
                place = tokens.from;
            }
            return NONE;
        }

        /** Takes the one sign that can stand here, if there is no fault yet. */
        private void readSign(char sign) {
            if (fault != 0) {
                return;
            }
            if (tokens.isSign(sign)) {
                tokens.take();
            } else {
                fail(MISPLACED);
            }
        }

        private void readCup() {
            if (cave.cups >= MOST_CUPS) {
                fail(TOO_MUCH);
                return;
            }
            tokens.take();
            int holds = readNumber(1, MOST_HOLDS);
            int fill = readNumber(0, holds - 1);
            int spring = readNumber(0, MOST_SPRING);
            readSign(';');
            if (fault == 0) {
                cave.addCup(holds, fill, spring);
            }
        }

        private int readNumber(int least, int most) {
            if (fault != 0) {
                return NONE;
            }
            if (tokens.kind != Tokens.NUMBER) {
                return fail(MISPLACED);
            }
            int number = tokens.value;
            if (tokens.isTooLong() || number < least || number > most) {
                return fail(TOO_MUCH);
            }
            tokens.take();
            return number;
        }

        private void readPipe() {
            tokens.take();
            int from = lookAtCup();
            if (from == NONE) {
                return;
            }
            if (cave.start.first[from] != NONE) {
                fail(BAD_PIPE);
                return;
            }
            tokens.take();
            int first = readInto(from, NONE);
            int second = first != NONE && tokens.kind == Tokens.NUMBER ? readInto(from, first) : NONE;
            readSign(';');
            if (fault == 0) {
                cave.start.first[from] = first;
                cave.start.second[from] = second;
            }
        }

        private int readInto(int from, int other) {
            int into = lookAtCup();
            if (into == NONE) {
                return NONE;
            }
            if (into <= from || into == other) {
                return fail(BAD_PIPE);
            }
            tokens.take();
            return into;
        }

        /** The cup that the token tells; it isn't taken, so that a fault can still be at it. */
        private int lookAtCup() {
            if (tokens.kind != Tokens.NUMBER) {
                return fail(MISPLACED);
            }
            if (tokens.isTooLong()) {
                return fail(TOO_MUCH);
            }
            return tokens.value < cave.cups ? tokens.value : fail(UNKNOWN);
        }

        private void readRule(Rule into) {
            if (into.isTold) {
                fail(SECOND_RULE);
                return;
            }
            rule = into;
            rule.isTold = true;
            tokens.take();
            readExpr(0);
            readSign(';');
        }

        private void readExpr(int within) {
            if (within >= MOST_WITHIN) {
                boolean could = tokens.kind == Tokens.NUMBER || tokens.kind == Tokens.WORD || tokens.isSign('(');
                fail(could ? TOO_MUCH : MISPLACED);
                return;
            }
            readAnd(within);
            for (int i = 0; i < MOST_BYTES && fault == 0 && tokens.isWord("or"); i++) {
                tokens.take();
                readAnd(within);
                rule.add(Rule.OR);
            }
        }

        private void readAnd(int within) {
            readNot(within);
            for (int i = 0; i < MOST_BYTES && fault == 0 && tokens.isWord("and"); i++) {
                tokens.take();
                readNot(within);
                rule.add(Rule.AND);
            }
        }

        private void readNot(int within) {
            int nots = 0;
            while (nots < MOST_NOTS && tokens.isWord("not")) {
                nots++;
                tokens.take();
            }
            if (tokens.isWord("not")) {
                fail(TOO_MUCH);
                return;
            }
            readTest(within);
            for (int i = 0; i < nots; i++) {
                rule.add(Rule.NOT);
            }
        }

        private void readTest(int within) {
            readSum(within);
            int sign = tokens.isSign('<') ? Rule.LESS : tokens.isSign('=') ? Rule.SAME : 0;
            if (fault == 0 && sign != 0) {
                tokens.take();
                readSum(within);
                rule.add(sign);
            }
        }

        private void readSum(int within) {
            readProduct(within);
            for (int i = 0; i < MOST_BYTES && fault == 0; i++) {
                int sign = tokens.isSign('+') ? Rule.PLUS : tokens.isSign('-') ? Rule.MINUS : 0;
                if (sign == 0) {
                    return;
                }
                tokens.take();
                readProduct(within);
                rule.add(sign);
            }
        }

        private void readProduct(int within) {
            readPart(within);
            for (int i = 0; i < MOST_BYTES && fault == 0; i++) {
                int sign = tokens.isSign('*') ? Rule.TIMES : tokens.isSign('/') ? Rule.BY : 0;
                if (sign == 0) {
                    return;
                }
                tokens.take();
                readPart(within);
                rule.add(sign);
            }
        }

        private void readPart(int within) {
            if (tokens.kind == Tokens.NUMBER) {
                rule.add(readNumber(0, 9999));
            } else if (tokens.kind == Tokens.WORD) {
                readValue();
            } else if (tokens.isSign('(')) {
                tokens.take();
                readExpr(within + 1);
                readSign(')');
            } else {
                fail(MISPLACED);
            }
        }

        private void readValue() {
            int sign = valueSign();
            if (sign == 0) {
                fail(UNKNOWN);
                return;
            }
            rule.add(sign);
            tokens.take();
        }

        private int valueSign() {
            if (tokens.isWord("fill")) {
                return Rule.FILL;
            }
            if (tokens.isWord("holds")) {
                return Rule.HOLDS;
            }
            if (tokens.isWord("spring")) {
                return Rule.SPRING;
            }
            if (tokens.isWord("tips")) {
                return Rule.TIPS;
            }
            if (tokens.isWord("cup")) {
                return Rule.CUP;
            }
            return tokens.isWord("hour") ? Rule.HOUR : 0;
        }
    }

    /** Lets hours go by, on the cups themselves or on a copy, and counts what happens in them. */
    private static final class Drip {
        static final int BY_FROST = 0;
        static final int FROZEN = 1;
        static final int CLEAR = 2;

        final Cups trial = new Cups();
        final int[] came = new int[MOST_CUPS];
        final int[] times = new int[MOST_CUPS];
        Cave told = new Cave();
        Cups cups = trial;
        /** Bits of the cups that tipped in the latest hour. */
        int tipped = 0;
        int lost = 0;

        void workOn(Cups real) {
            cups = real;
            Arrays.fill(times, 0);
            tipped = 0;
            lost = 0;
        }

        void workOnCopy(Cups real) {
            trial.copy(real);
            workOn(trial);
        }

        void goOn(int hours) {
            for (int hour = 0; hour < hours; hour++) {
                passHour(BY_FROST);
            }
        }

        void passHour(int weather) {
            Arrays.fill(came, 0);
            tipped = 0;
            for (int cup = 0; cup < told.cups; cup++) {
                int drops = springRuns(cup, weather) ? told.spring[cup] : 0;
                tip(cup, drops + came[cup]);
            }
            for (int cup = 0; cup < told.cups; cup++) {
                int leak = told.leak(cups, cup);
                cups.fill[cup] -= leak;
                lost += leak;
            }
            cups.hour++;
        }

        private boolean springRuns(int cup, int weather) {
            if (weather == FROZEN || cups.isPlugged(cup)) {
                return false;
            }
            if (weather == CLEAR || !told.frost.isTold) {
                return true;
            }
            return told.frost.value(cups, cup, told.spring[cup]) <= 0;
        }

        /** Drops come in from outside, without an hour: no springs, no leaks. */
        void fillUp(int cup, int drops) {
            Arrays.fill(came, 0);
            tipped = 0;
            if (cup >= 0 && cup < MOST_CUPS) {
                came[cup] = drops;
            }
            for (int other = 0; other < told.cups; other++) {
                tip(other, came[other]);
            }
        }

        private void tip(int cup, int drops) {
            int full = cups.fill[cup] + drops;
            int holds = Math.max(1, cups.holds[cup]);
            int many = full / holds;
            cups.fill[cup] = full - many * holds;
            if (many > 0) {
                tipped |= bitOf(cup);
                times[cup] += many;
                cups.tips[cup] = Math.min(MOST_TIPS, cups.tips[cup] + many);
                letGo(cup, many);
            }
        }

        private void letGo(int cup, int drops) {
            int toFirst = cups.dropsIntoFirst(cup, drops);
            give(cups.first[cup], toFirst);
            give(cups.second[cup], drops - toFirst);
            cups.passTurns(cup, drops);
        }

        private void give(int into, int drops) {
            if (into >= 0 && into < MOST_CUPS) {
                came[into] += drops;
            } else {
                lost += drops;
            }
        }

        int timesOfAll() {
            int sum = 0;
            for (int cup = 0; cup < told.cups; cup++) {
                sum += times[cup];
            }
            return sum;
        }

        int neverTipped() {
            int never = 0;
            for (int cup = 0; cup < told.cups; cup++) {
                if (times[cup] == 0) {
                    never |= 1 << cup;
                }
            }
            return never;
        }
    }

    /** What has come and tipped behind many hours without leaks and frost, not hour by hour. */
    private static final class Floors {
        final int[] inflow = new int[MOST_CUPS];
        final int[] times = new int[MOST_CUPS];
        final int[] keptTimes = new int[MOST_CUPS];

        void reckon(Cave cave, Cups cups, int hours) {
            Arrays.fill(inflow, 0);
            Arrays.fill(times, 0);
            for (int cup = 0; cup < cave.cups; cup++) {
                if (!cups.isPlugged(cup)) {
                    inflow[cup] += cave.spring[cup] * hours;
                }
                times[cup] = (cups.fill[cup] + inflow[cup]) / Math.max(1, cups.holds[cup]);
                int toFirst = cups.dropsIntoFirst(cup, times[cup]);
                give(cups.first[cup], toFirst);
                give(cups.second[cup], times[cup] - toFirst);
            }
        }

        private void give(int into, int drops) {
            if (into >= 0 && into < MOST_CUPS) {
                inflow[into] += drops;
            }
        }

        void keepTimes() {
            System.arraycopy(times, 0, keptTimes, 0, MOST_CUPS);
        }

        boolean allTippedSince(int some) {
            for (int cup = 0; cup < MOST_CUPS; cup++) {
                if (has(some, cup) && times[cup] == keptTimes[cup]) {
                    return false;
                }
            }
            return true;
        }
    }

    /** The ways in which one cup may have been led elsewhere, so that all that is heard is so. */
    private static final class Suspicion {
        /** Eight longs are a bit for each set of nine cups. */
        static final int LONGS = 8;

        final int[] tipped = new int[HEARD_HOURS];
        final long[] sets = new long[HEARD_HOURS * LONGS];
        int found = 0;
        int first = NONE;

        boolean fitsAsItIs(Drip drip, Minutes now) {
            drip.workOnCopy(now.cups);
            return fits(drip, now.heard);
        }

        void search(Drip drip, Minutes now) {
            int cups = drip.told.cups;
            found = 0;
            first = NONE;
            Arrays.fill(sets, 0L);
            for (int cup = 0; cup < cups; cup++) {
                for (int other = cup + 1; other <= cups; other++) {
                    int into = other < cups ? other : NONE;
                    drip.workOnCopy(now.cups);
                    drip.cups.setInto(cup, into);
                    if (!now.cups.leadsJust(cup, into) && fits(drip, now.heard)) {
                        keepFound(cup, into);
                    }
                }
            }
        }

        private void keepFound(int cup, int into) {
            if (found == 0) {
                first = cup * 10 + (into == NONE ? FLOOR_SIGN : into);
            }
            found++;
            keepSets();
        }

        private boolean fits(Drip drip, Heard heard) {
            for (int i = 0; i < HEARD_HOURS; i++) {
                drip.passHour(Drip.BY_FROST);
                tipped[i] = drip.tipped;
                if (!heard.agrees(i + 1, drip.tipped)) {
                    return false;
                }
            }
            return true;
        }

        private void keepSets() {
            for (int i = 0; i < HEARD_HOURS; i++) {
                int set = tipped[i];
                if (set >= 0 && set < 64 * LONGS) {
                    sets[i * LONGS + set / 64] |= 1L << (set % 64);
                }
            }
        }

        /** How many sets of cups, unlike each other, tip in this hour by what was found. */
        int unlikeIn(int hour) {
            int many = 0;
            for (int i = 0; i < LONGS; i++) {
                int at = (hour - 1) * LONGS + i;
                if (at >= 0 && at < sets.length) {
                    many += Long.bitCount(sets[at]);
                }
            }
            return many;
        }
    }
}
