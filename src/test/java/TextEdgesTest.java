/** The edges that the document names for promises 1 to 4 and for the text: each sentence has a method of its own. */
public final class TextEdgesTest {
    private static final Checks CHECKS = new Checks();
    private static final String CUP = "cup 1 0 0;";
    private static final int LEAST = Integer.MIN_VALUE;
    private static final int MOST = Integer.MAX_VALUE;

    public static void main(String[] args) {
        newObjectWithoutCups();
        newObjectAnswers();
        feedFull();
        feedHighestByteFirst();
        feedOfAnyByte();
        caveOfSoManyBytes();
        caveOfTheFirstBytesOnly();
        caveThrows();
        caveWithFault();
        caveAllAnew();
        caveOfManyTexts();
        faultPlace();
        longestText();
        mostCups();
        numbersOfACup();
        pipesOfOneOrTwo();
        wordsAndNumbers();
        bytesThatAreNoToken();
        blanks();
        endsTooSoon();
        misplaced();
        tooManyDigits();
        withinOthers();
        nots();
        words();
        cupsToldAhead();
        pipesThatCannotBe();
        secondRules();
        firstAndLeastFault();
        CHECKS.end();
    }

    private static void reads(String text, int fault, int place) {
        DripCups x = new DripCups();
        String name = text.length() > 80 ? text.substring(0, 80) + ".." : text;
        CHECKS.due("'" + name + "'", fault, () -> Checks.read(x, text));
        CHECKS.due("place in '" + name + "'", place, () -> x.fault());
        CHECKS.due("refused texts of '" + name + "'", fault == 0 ? 0 : 1, () -> x.count(10));
    }

    private static void good(String text) {
        reads(text, 0, -1);
    }

    // ---- promise 1 ----

    /** "DripCups(): No CUPS." */
    private static void newObjectWithoutCups() {
        Checks.Made made = DripCups::new;
        for (int cup : new int[] {0, -1, 1, 8, 9, LEAST, MOST}) {
            Checks.CallOn[] calls = {
                x -> x.cup(cup, 0), x -> x.lead(cup, -1) ? 1 : 0, x -> x.plug(cup, true) ? 1 : 0, x -> x.pour(cup, 1),
                x -> x.crack(cup, 1), x -> x.then(cup, 1, 0), x -> x.next(cup), x -> x.fallen(cup, 1),
                x -> x.nth(cup, 1), x -> x.flow(cup, 1), x -> x.tier(cup, 0), x -> x.toCrack(cup, 1, 1, 0),
                x -> x.hear(cup, 1, true), x -> x.cold(cup, 1, 1), x -> x.game(cup, cup, 0), x -> x.pause(cup),
                x -> x.giver(cup, 1), x -> x.toPour(cup, 1), x -> x.ways(cup, cup), x -> x.swell(cup, 1)};
            for (int i = 0; i < calls.length; i++) {
                CHECKS.refused("new: call " + i + " of cup " + cup, -1, Checks.NO_SUCH, made, calls[i]);
            }
        }
    }

    private static void newObjectAnswers() {
        DripCups x = new DripCups();
        for (int what = 0; what <= 12; what++) {
            int w = what;
            CHECKS.due("new: count " + w, 0, () -> x.count(w));
        }
        CHECKS.due("new: tipping 1", 0, () -> x.tipping(1));
        CHECKS.due("new: tipping 200", 0, () -> x.tipping(200));
        CHECKS.due("new: silence", 200, () -> x.sound(200, 0));
        CHECKS.due("new: loudest", 1, () -> x.sound(200, 1));
        CHECKS.due("new: together of none", 1, () -> x.together(0));
        CHECKS.due("new: together of one", Checks.ILLEGAL, () -> x.together(1));
        CHECKS.due("new: meeting of none", 1, () -> x.meeting(0));
        CHECKS.due("new: meeting of one", Checks.ILLEGAL, () -> x.meeting(1));
        CHECKS.due("new: chorus of none", 200, () -> x.chorus(0, 200));
        CHECKS.due("new: chorus of one", Checks.ILLEGAL, () -> x.chorus(1, 200));
        CHECKS.due("new: never", 0, () -> x.never(200));
        CHECKS.due("new: office", -1, () -> x.office(60, 0));
        CHECKS.due("new: office's hour", -1, () -> x.office(60, 1));
        CHECKS.due("new: led, how many", 0, () -> x.led(0));
        CHECKS.due("new: led, the first", -1, () -> x.led(1));
        CHECKS.due("new: led, without", 1, () -> x.led(2));
        CHECKS.due("new: listen, hour", -1, () -> x.listen(0));
        CHECKS.due("new: listen, how many", 0, () -> x.listen(1));
        CHECKS.due("new: fullest", -1, () -> x.later(0, 0));
        CHECKS.due("new: dry", 0, () -> x.later(0, 1));
        CHECKS.due("new: lost", 0, () -> x.later(200, 2));
        CHECKS.due("new: oftenest", -1, () -> x.oftenest(1));
        CHECKS.due("new: round", 1, () -> x.round());
        for (int what = 0; what < 3; what++) {
            int w = what;
            CHECKS.due("new: years " + w, 0, () -> x.years(1, 200, w));
        }
        CHECKS.due("new: an hour goes by", 1, () -> x.hours(1));
        CHECKS.due("new: and is undone", 0, () -> x.undo());
        CHECKS.due("new: no more", -1, () -> x.undo());
    }

    // ---- promise 2 ----

    /** "how many it has; NONE, and none come, if it would have more than 700" */
    private static void feedFull() {
        String text = " ".repeat(690) + CUP;
        Checks.Made full = () -> {
            DripCups x = new DripCups();
            Checks.feed(x, text);
            return x;
        };
        DripCups x = new DripCups();
        for (int n = 20; n <= 700; n += 20) {
            int many = n;
            CHECKS.due("fed to " + n, many, () -> x.feed(0, 0, 0, 0, 0));
            CHECKS.due("bytes then", many, () -> x.count(9));
        }
        CHECKS.refused("feed beyond 700", -1, -1, full, y -> y.feed(-1, -1, -1, -1, -1));
        DripCups y = full.make();
        y.feed(0x3b3b3b3b, 0, 0, 0, 0);
        y.feed(0x3b3b3b3b, 0, 0, 0, 0);
        CHECKS.due("none came: beyond", Checks.ILLEGAL, () -> y.cave(701));
        CHECKS.due("none came: the text is as it was", 0, () -> y.cave(700));
        CHECKS.due("none came: its cup", 1, () -> y.count(0));
        CHECKS.due("the tape takes again", 20, () -> y.feed(0, 0, 0, 0, 0));
    }

    /** "Twenty bytes come behind the tape, of each number the highest first" */
    private static void feedHighestByteFirst() {
        DripCups x = new DripCups();
        // "cup 12 3 4;cup 5 1 6" and "; pipe 0 1;cup 7 2 8" and ";"
        CHECKS.due("twenty", 20, () -> x.feed(0x63757020, 0x31322033, 0x20343b63, 0x75702035, 0x20312036));
        CHECKS.due("behind the tape", 40, () -> x.feed(0x3b207069, 0x70652030, 0x20313b63, 0x75702037, 0x20322038));
        CHECKS.due("and once more", 60, () -> x.feed(0x3b202020, 0x20202020, 0x20202020, 0x20202020, 0x20202020));
        CHECKS.due("they are a cave", 0, () -> x.cave(60));
        int[][] due = {{12, 3, 4, 1}, {5, 1, 6, -1}, {7, 2, 8, -1}};
        for (int cup = 0; cup < 3; cup++) {
            for (int what = 0; what < 4; what++) {
                int c = cup;
                int w = what;
                CHECKS.due("cup " + c + " " + w, due[c][w], () -> x.cup(c, w));
            }
        }
    }

    /** Any byte may be fed, also those above 127; what is no TOKEN is a FAULT only when it is read. */
    private static void feedOfAnyByte() {
        DripCups x = new DripCups();
        CHECKS.due("the least", 20, () -> x.feed(LEAST, LEAST, LEAST, LEAST, LEAST));
        CHECKS.due("the greatest", 40, () -> x.feed(MOST, MOST, MOST, MOST, MOST));
        CHECKS.due("-1", 60, () -> x.feed(-1, -1, -1, -1, -1));
        CHECKS.due("none of it is read", 0, () -> x.cave(0));
        x.feed(0x63757020, 0x31203020, 0x303b0a0a, 0x200a20ff, -1);
        CHECKS.due("byte 255", 1, () -> x.cave(20));
        CHECKS.due("its place", 15, () -> x.fault());
    }

    // ---- promise 3 ----

    /** "The tape's first n bytes (it is empty then)": n from 0 to all that it has. */
    private static void caveOfSoManyBytes() {
        DripCups x = new DripCups();
        CHECKS.due("none of an empty tape", 0, () -> x.cave(0));
        CHECKS.due("one of an empty tape", Checks.ILLEGAL, () -> x.cave(1));
        Checks.feed(x, CUP + CUP);
        CHECKS.due("all twenty", 0, () -> x.cave(20));
        CHECKS.due("two cups", 2, () -> x.count(0));
        CHECKS.due("it is empty then", 0, () -> x.count(9));
        CHECKS.due("so there is no more", Checks.ILLEGAL, () -> x.cave(1));
        Checks.feed(x, CUP + CUP);
        CHECKS.due("ten of twenty", 0, () -> x.cave(10));
        CHECKS.due("one cup", 1, () -> x.count(0));
        CHECKS.due("it is empty too", 0, () -> x.count(9));
        Checks.feed(x, CUP + CUP);
        CHECKS.due("none of twenty", 0, () -> x.cave(0));
        CHECKS.due("no cups", 0, () -> x.count(0));
        CHECKS.due("empty all the same", 0, () -> x.count(9));
        Checks.feed(x, CUP + CUP);
        CHECKS.due("nineteen: it ends too soon", 1, () -> x.cave(19));
        CHECKS.due("there", 19, () -> x.fault());
        CHECKS.due("empty behind a fault", 0, () -> x.count(9));
    }

    private static void cut(String tape, int n, int fault, int place) {
        DripCups x = new DripCups();
        Checks.feed(x, tape);
        CHECKS.due(n + " bytes of '" + tape + "'", fault, () -> x.cave(n));
        CHECKS.due("place in " + n + " bytes of '" + tape + "'", place, () -> x.fault());
    }

    /** "The tape's first n bytes": a TOKEN that goes on behind them ends with them. */
    private static void caveOfTheFirstBytesOnly() {
        cut("cupcup 1 0 0;", 3, 1, 3);
        cut("cup 1 0 0;#", 10, 0, -1);
        cut("cup 1 0 0;;", 10, 0, -1);
        cut("cup 1 0 0;x", 10, 0, -1);
        cut("leaks 12345;", 10, 1, 10);
        cut("leaks 12345;", 11, 2, 6);
        cut("leaks fills;", 10, 1, 10);
        cut("leaks fills;", 11, 3, 6);
        cut("cup 300 0 0;", 6, 1, 6);
        cut("cup 300 0 0;", 7, 2, 4);
        cut("cup 1 0 0;", 9, 1, 9);
        cut("leaks (1);", 8, 1, 8);
        DripCups x = new DripCups();
        Checks.feed(x, "cup 30 9 2;leaks 1;cup 4 1 1;");
        x.cave(19);
        Checks.read(x, "cup 3 1 1;");
        CHECKS.due("a shorter text behind a longer one", 1, () -> x.count(0));
        CHECKS.due("has no rule of that", 2, () -> x.then(0, 1, 0));
    }

    /** "IllegalArgumentException: the tape has not so many, n below 0 (nothing changes)." */
    private static void caveThrows() {
        for (int n : new int[] {-1, 21, 700, LEAST, MOST}) {
            CHECKS.refused("cave " + n, -1, Checks.ILLEGAL, Checks::used, x -> x.cave(n));
        }
        DripCups x = new DripCups();
        Checks.feed(x, CUP + CUP);
        CHECKS.due("too many", Checks.ILLEGAL, () -> x.cave(21));
        CHECKS.due("too few", Checks.ILLEGAL, () -> x.cave(-1));
        CHECKS.due("no fault by these", -1, () -> x.fault());
        CHECKS.due("all twenty can still be read", 0, () -> x.cave(20));
        CHECKS.due("they are two cups", 2, () -> x.count(0));
    }

    /** "0, or the FAULT (all stays)": also ACTS, what is HEARD, the image; the tape is empty, STATUS 0 counts. */
    private static void caveWithFault() {
        String[] texts = {"x", "cup 31", "cup 9 1 1;leaks x;", "frost 0;frost 0;", "cup 9 1 1;pipe 0 1;pipe 0 1;",
            CUP.repeat(9), "leaks 99;frost 1;#", "pipe 0 1"};
        int[] faults = {1, 2, 3, 5, 4, 2, 1, 3};
        int[] places = {0, 4, 16, 8, 24, 80, 17, 7};
        for (int i = 0; i < texts.length; i++) {
            String text = texts[i];
            DripCups tried = Checks.used();
            Checks.feed(tried, text);
            CHECKS.due("behind a cup: " + text, faults[i], () -> tried.cave(20 + text.length()));
            CHECKS.due("its place", 20 + places[i], () -> tried.fault());
            CHECKS.due("the tape is empty", 0, () -> tried.count(9));
            CHECKS.due("one more text is refused", 2, () -> tried.count(10));
            CHECKS.due("no act is", 0, () -> tried.count(11));
            CHECKS.due("nothing heard is", 0, () -> tried.count(12));
            CHECKS.same("all stays behind " + text, tried, Checks.used());
        }
        DripCups ruled = Checks.cave("cup 9 5 2;leaks 1;frost hour=0;");
        Checks.read(ruled, "leaks 3;frost 1;cup 9 9 9;");
        CHECKS.due("the rules stay: the first hour", 4, () -> ruled.then(0, 1, 0));
        CHECKS.due("and the second", 5, () -> ruled.then(0, 2, 0));
    }

    /** "all anew: .. ACTS, what is HEARD, the image are gone (STATUS stays)" */
    private static void caveAllAnew() {
        String text = "cup 3 1 1;cup 3 0 0;cup 3 0 0;cup 6 0 0;pipe 0 2 1;";
        DripCups x = Checks.used();
        x.hours(0);
        x.hours(21);
        x.hear(0, 0, true);
        x.hear(0, 41, true);
        x.hear(0, 41, true);
        Checks.feed(x, text);
        x.cave(0);
        CHECKS.due("anew", 0, () -> Checks.read(x, text));
        CHECKS.due("the hour", 0, () -> x.count(1));
        CHECKS.due("acts", 0, () -> x.count(7));
        CHECKS.due("nothing to undo", -1, () -> x.undo());
        CHECKS.due("heard", 0, () -> x.count(8));
        CHECKS.due("nothing heard is asked", 1, () -> x.led(2));
        CHECKS.is("no image", false, () -> x.restore());
        CHECKS.due("status 0 stays", 1, () -> x.count(10));
        CHECKS.due("status 1 stays", 2, () -> x.count(11));
        CHECKS.due("status 2 stays", 3, () -> x.count(12));
        CHECKS.same("all is as on a new object", x, Checks.cave(text));
        DripCups empty = Checks.used();
        empty.cave(0);
        CHECKS.is("an empty text: no image", false, () -> empty.restore());
        CHECKS.same("an empty text: as a new object", empty, new DripCups());
    }

    /** "all anew": whatever was read ahead, by whichever text, good or not. */
    private static void caveOfManyTexts() {
        String[] texts = {
            "cup 30 7 20;cup 9 8 7;cup 5 4 3;pipe 0 1 2;pipe 1 2;leaks 3;frost cup=2;", "cup 4 2 1;", "cup 9 0 0;cup 31",
            "cup 2 1 1;cup 3 2 2;", "leaks 7;frost 1;", "cup 8 3 3;cup 9 0 0;pipe 0 1;", "", "cup 9 3 2;leaks 1;x",
            "cup 9 3 2;cup 9 3 2;", "cup 9 7 2;leaks 1;", "cup 9 7 2;leaks 2;", "leaks 3;frost hour=0;cup 9 7 2;",
            "leaks 0;frost hour=1;cup 9 7 2;", "cup 9 7 2;frost hour=2;", "leaks 4;cup 9 7 2;", "frost 1;cup 9 3 2;", "cup 9 3 2;pipe", "cup 9 3 2;", "cup 7 0 1;leaks"};
        DripCups x = new DripCups();
        DripCups latest = x;
        for (String text : texts) {
            DripCups alone = new DripCups();
            int due = Checks.read(alone, text);
            CHECKS.due("behind others: " + text, due, () -> Checks.read(x, text));
            latest = due == 0 ? alone : latest;
            DripCups last = latest;
            for (int what = 0; what < 9; what++) {
                int w = what;
                CHECKS.due("count " + w, last.count(w), () -> x.count(w));
            }
            for (int cup = 0; cup < last.count(0); cup++) {
                int c = cup;
                CHECKS.due("pipe of " + c, last.cup(c, 3), () -> x.cup(c, 3));
                CHECKS.due("other pipe of " + c, last.cup(c, 4), () -> x.cup(c, 4));
                CHECKS.due("fill of " + c, last.then(c, 3, 0), () -> x.then(c, 3, 0));
                CHECKS.due("tips of " + c, last.then(c, 3, 1), () -> x.then(c, 3, 1));
            }
        }
        rulesInARow();
        DripCups turned = Checks.cave("cup 1 0 1;" + CUP + CUP + "pipe 0 1 2;");
        turned.hours(1);
        CHECKS.due("the second one's turn", 2, () -> turned.cup(0, 3));
        Checks.read(turned, "cup 1 0 1;" + CUP + CUP + "pipe 0 1 2;");
        CHECKS.due("anew it is the first one's", 1, () -> turned.cup(0, 3));
    }

    /** Of a longer rule nothing is left behind a shorter one, whichever text it was in. */
    private static void rulesInARow() {
        String[] rules = {"not 1", "not 1", "2", "3", "0-(1+2)*3", "not not not 9", "4", "5 or 0", "9*9*9", "6", "7"};
        int[] leaks = {0, 0, 2, 3, 0, 0, 4, 1, 29, 6, 7};
        DripCups x = new DripCups();
        for (int i = 0; i < rules.length; i++) {
            int left = 29 - leaks[i];
            Checks.read(x, "cup 30 29 0;leaks " + rules[i] + ";");
            CHECKS.due("behind others: leaks " + rules[i], left, () -> x.then(0, 1, 0));
            int fill = leaks[i] > 0 ? 28 : 29;
            Checks.read(x, "cup 30 28 1;frost " + rules[i] + ";");
            CHECKS.due("behind others: frost " + rules[i], fill, () -> x.then(0, 1, 0));
        }
    }

    // ---- promise 4 ----

    /** "The place of the latest cave()'s FAULT; NONE without." */
    private static void faultPlace() {
        DripCups x = new DripCups();
        CHECKS.due("of no cave() yet", -1, () -> x.fault());
        Checks.feed(x, "?");
        CHECKS.due("of what isn't read yet", -1, () -> x.fault());
        x.cave(1);
        CHECKS.due("the first byte", 0, () -> x.fault());
        Checks.read(x, CUP + "  ?");
        CHECKS.due("the latest one's", 12, () -> x.fault());
        x.hours(1);
        x.undo();
        x.image();
        x.restore();
        Checks.feed(x, CUP);
        CHECKS.due("it stays", 12, () -> x.fault());
        CHECKS.due("cave that throws", Checks.ILLEGAL, () -> x.cave(21));
        CHECKS.due("is none", 12, () -> x.fault());
        x.cave(0);
        CHECKS.due("without", -1, () -> x.fault());
        Checks.read(x, " ".repeat(699) + "?");
        CHECKS.due("the last byte", 699, () -> x.fault());
        Checks.read(x, CUP + " ".repeat(687) + "cup");
        CHECKS.due("the length of the longest text", 700, () -> x.fault());
    }

    // ---- the text ----

    /** "A TEXT of at most 700 bytes" */
    private static void longestText() {
        String rule = "leaks 0" + "+1".repeat(340) + "-339";
        good(rule + " ".repeat(699 - rule.length()) + ";");
        DripCups x = Checks.cave("cup 9 5 0;leaks " + "1+".repeat(300) + "0-" + "(" + "1+".repeat(30) + "269);      ");
        CHECKS.due("all its parts count", 4, () -> x.then(0, 1, 0));
        String lines = "cup 1 0 0;".repeat(9) + "pipe 0 1;pipe 1 2;pipe 2 3;pipe 3 4;pipe 4 5;pipe 5 6;pipe 6 7;";
        String last = "pipe 7 8;";
        DripCups y = Checks.cave(lines + " ".repeat(700 - lines.length() - last.length()) + last);
        CHECKS.due("its last line counts", 8, () -> y.cup(7, 3));
        reads(rule + " ".repeat(700 - rule.length()), 1, 700);
        reads(";".repeat(700), 1, 0);
    }

    /** "CUPS 0, 1 .. (at most 9)", "2 .. the first TOKEN of the 10th CUP" */
    private static void mostCups() {
        good(CUP.repeat(9));
        DripCups x = Checks.cave("cup 2 1 0;".repeat(8) + "cup 3 2 0;");
        CHECKS.due("nine", 9, () -> x.count(0));
        CHECKS.due("the ninth", 3, () -> x.cup(8, 0));
        CHECKS.due("no tenth", Checks.NO_SUCH, () -> x.cup(9, 0));
        reads(CUP.repeat(10), 2, 90);
        reads(CUP.repeat(9) + "cup", 2, 90);
        reads(CUP.repeat(9) + "\n cup ?", 2, 92);
        reads(CUP.repeat(9) + "cups", 1, 90);
        good(CUP.repeat(9) + "pipe 0 8;leaks 1;frost 1;");
        reads(CUP.repeat(9) + "pipe 0 8;leaks 1;frost 1;cup 1 0 0;", 2, 115);
    }

    /** "HOLDS (1 to 30 drops), FILL (0 to HOLDS less 1), a SPRING (0 to 20 drops an HOUR)", "2 .. not as told" */
    private static void numbersOfACup() {
        good("cup 1 0 0;");
        reads("cup 0 0 0;", 2, 4);
        good("cup 30 0 0;");
        reads("cup 31 0 0;", 2, 4);
        reads("cup 9999 0 0;", 2, 4);
        reads("cup 1 1 0;", 2, 6);
        good("cup 2 1 0;");
        reads("cup 2 2 0;", 2, 6);
        good("cup 30 29 0;");
        reads("cup 30 30 0;", 2, 7);
        reads("cup 30 9999 0;", 2, 7);
        good("cup 1 0 20;");
        reads("cup 1 0 21;", 2, 8);
        reads("cup 1 0 9999;", 2, 8);
        good("cup 0030 0029 0020;");
        DripCups x = Checks.cave("cup 30 29 20;cup 1 0 0;cup 0030 0029 0020;");
        int[][] due = {{30, 29, 20}, {1, 0, 0}, {30, 29, 20}};
        for (int cup = 0; cup < 3; cup++) {
            for (int what = 0; what < 3; what++) {
                int c = cup;
                int w = what;
                CHECKS.due("cup " + c + ", what " + w, due[c][w], () -> x.cup(c, w));
            }
        }
    }

    /** "'pipe' CUP CUP [CUP]": one, or two; and "without a PIPE on the floor" */
    private static void pipesOfOneOrTwo() {
        String cups = CUP.repeat(4);
        reads(cups + "pipe;", 1, 44);
        reads(cups + "pipe 0;", 1, 46);
        good(cups + "pipe 0 1;");
        good(cups + "pipe 0 1 2;");
        reads(cups + "pipe 0 1 2 3;", 1, 51);
        DripCups x = Checks.cave(cups + "pipe 0 3;pipe 1 3 2;");
        int[][] due = {{3, 3}, {3, 2}, {-1, -1}, {-1, -1}};
        for (int cup = 0; cup < 4; cup++) {
            int c = cup;
            CHECKS.due("next of " + c, due[c][0], () -> x.cup(c, 3));
            CHECKS.due("and behind it of " + c, due[c][1], () -> x.cup(c, 4));
        }
    }

    /** "words (a .. z, the longest row), NUMBERS (1 to 4 digits), signs .. ; blanks .. between them count for nothing" */
    private static void wordsAndNumbers() {
        reads("cupa 1 0 0;", 1, 0);
        reads("cupz 1 0 0;", 1, 0);
        reads("acup 1 0 0;", 1, 0);
        reads("cu p 1 0 0;", 1, 0);
        reads("pipeleaks 1;", 1, 0);
        good("cup1 0 0;leaks1or 2and not3;frost not(fill)or(1)and(2);");
        reads("leaks notfill;", 3, 6);
        reads("leaks orfill;", 3, 6);
        reads("leaks 1 orfill;", 1, 8);
        reads("leaks 1orfill;", 1, 7);
        good("leaks not fill;");
        // a row of digits is one number: 100 and no 1, 0, 0
        reads("cup 100;", 2, 4);
        reads("cup 10 0;", 1, 8);
        DripCups x = Checks.cave(CUP + CUP + "pipe0 01;");
        CHECKS.due("01 is 1", 1, () -> x.cup(0, 3));
        DripCups y = Checks.cave("cup 30 29 0;leaks 0009+0*9999;");
        CHECKS.due("0009 is 9", 20, () -> y.then(0, 1, 0));
        DripCups z = Checks.cave("cup 30 29 0;leaks 9999-9990;");
        CHECKS.due("9999 is taken", 20, () -> z.then(0, 1, 0));
    }

    /** "1 a TOKEN that can't stand there, or is none": each byte between two numbers, ahead of one, behind a line. */
    private static void bytesThatAreNoToken() {
        for (int b = 0; b < 256; b++) {
            char sign = (char) b;
            boolean digit = b >= '0' && b <= '9';
            boolean blank = b == 32 || b == 10;
            if ("+-*/<=".indexOf(sign) >= 0 || digit) {
                good("leaks 1" + sign + "2;");
            } else {
                reads("leaks 1" + sign + "2;", 1, blank || b == ';' ? 8 : 7);
            }
            if (blank || digit) {
                good("leaks " + sign + "1;");
            } else if (b >= 'a' && b <= 'z') {
                reads("leaks " + sign + "1;", 3, 6);
            } else {
                reads("leaks " + sign + "1;", 1, b == '(' ? 8 : 6);
            }
            reads(CUP + sign, blank ? 0 : 1, blank ? -1 : 10);
        }
    }

    /** "blanks (32, 10) between them count for nothing" */
    private static void blanks() {
        good("  \n\n cup \n 1  0\n\n0 ; \n leaks ( 1 \n ) ; ");
        good("cup\n1\n0\n0\n;");
        good(" ");
        good("\n");
        good(" ".repeat(700));
        reads(" \n ;", 1, 3);
        for (char none : new char[] {0, 9, 11, 12, 13, 31, 33, 127, 133, 160, 255}) {
            reads("cup" + none + "1 0 0;", 1, 3);
        }
    }

    /** "(the text's length where it ends too soon)": behind each TOKEN of each LINE, blanks at the end or not. */
    private static void endsTooSoon() {
        String[] texts = {"cup", "cup 1", "cup 1 0", "cup 1 0 0", CUP + CUP + "pipe", CUP + CUP + "pipe 0",
            CUP + CUP + "pipe 0 1", CUP + CUP + CUP + "pipe 0 1 2", "leaks", "leaks 1", "leaks fill", "leaks not",
            "leaks 1 or", "leaks 1 and", "leaks 1 <", "leaks 1 =", "leaks 1 +", "leaks 1 -", "leaks 1 *", "leaks 1 /",
            "leaks (", "leaks (1", "leaks (1)", "leaks 1 < 2", "frost", "frost 1", "leaks ((((((",
            "leaks not not not not not not"};
        for (String text : texts) {
            reads(text, 1, text.length());
            reads(text + " \n ", 1, text.length() + 3);
        }
        good("");
    }

    /** "1 a TOKEN that can't stand there": in each place of each LINE. */
    private static void misplaced() {
        for (String token : new String[] {"fill", "or", "x", "7", "(", ")", "+", "-", "*", "/", "<", "=", ";", "?"}) {
            reads(CUP + token, 1, 10);
            if (!token.equals("7")) {
                reads("cup " + token + " 0 0;", 1, 4);
                reads("cup 5 " + token + " 0;", 1, 6);
                reads("cup 5 0 " + token + ";", 1, 8);
                reads(CUP + CUP + "pipe " + token, 1, 25);
                reads(CUP + CUP + "pipe 0 " + token, 1, 27);
            }
            if (!token.equals("7") && !token.equals(";")) {
                reads(CUP + CUP + "pipe 0 1 " + token, 1, 29);
            }
            if (!token.equals(";")) {
                reads("cup 5 0 0 " + token, 1, 10);
                reads(CUP + CUP + CUP + "pipe 0 1 2 " + token, 1, 41);
            }
        }
        for (String token : new String[] {")", "+", "-", "*", "/", "<", "=", ";", "?"}) {
            for (String ahead : new String[] {"", "not ", "1 or ", "1 and ", "1 < ", "1 + ", "1 * ", "( "}) {
                reads("leaks " + ahead + token, 1, 6 + ahead.length());
            }
        }
        for (String token : new String[] {"7", "fill", "x", "not", "(", ")", "?", "leaks", "12345"}) {
            reads("leaks 1 " + token, 1, 8);
            reads("leaks fill " + token, 1, 11);
            reads("leaks (1) " + token, 1, 10);
        }
        for (String token : new String[] {"7", "fill", "not", "(", ";", "?"}) {
            reads("leaks (1 " + token, 1, 9);
        }
        for (String test : new String[] {"<", "="}) {
            reads("leaks 1 < 2 " + test + " 3;", 1, 12);
            reads("leaks 1 = 2 " + test + " 3;", 1, 12);
            good("leaks (1 < 2) " + test + " 3;");
            good("leaks 1 < 2 and 2 " + test + " 3;");
        }
    }

    /** "2 .. a NUMBER of 5 digits or more": wherever a NUMBER can stand; where it can't, it is 1. */
    private static void tooManyDigits() {
        reads("cup 00001 0 0;", 2, 4);
        reads("cup 1 00000 0;", 2, 6);
        reads("cup 1 0 00000;", 2, 8);
        reads("cup 1 0 0 00000;", 1, 10);
        reads(CUP + CUP + "pipe 00000 1;", 2, 25);
        reads(CUP + CUP + "pipe 0 00001;", 2, 27);
        reads(CUP + CUP + CUP + "pipe 0 1 00002;", 2, 39);
        reads(CUP + CUP + CUP + "pipe 0 1 2 00002;", 1, 41);
        good("leaks 9999;");
        good("leaks 0000;");
        reads("leaks 10000;", 2, 6);
        reads("leaks 00000;", 2, 6);
        reads("leaks 99999999999999999999;", 2, 6);
        reads("leaks 4294967297;", 2, 6);
        reads("leaks " + "0".repeat(690) + ";", 2, 6);
        reads("leaks 1+00000;", 2, 8);
        reads("leaks not (00000", 2, 11);
        reads("leaks 1 00000;", 1, 8);
        reads("00000", 1, 0);
    }

    /** "2 .. of an EXPR within 6 others (a NUMBER, any word, a parenthesis)" */
    private static void withinOthers() {
        good("leaks (((((1)))));");
        good("leaks (((((not fill or 2)))))+(((((3)))));");
        good("leaks (1)+(2)+(3)+(4)+(5)+(6)+(7)+(8);");
        reads("leaks ((((((1))))));", 2, 12);
        reads("leaks 1+(2*(3-(4/(5<(6=(7))))));", 2, 24);
        reads("leaks not(not(not(not(not(not(1))))));", 2, 30);
        for (String token : new String[] {"1", "00000", "fill", "not", "or", "x", "leaks", "("}) {
            reads("frost ((((((" + token, 2, 12);
            reads("frost (((((( \n" + token + ";", 2, 14);
        }
        for (String token : new String[] {")", ";", "+", "-", "*", "/", "<", "=", "?", "A"}) {
            reads("frost ((((((" + token, 1, 12);
        }
        reads("frost ((((((", 1, 12);
        reads("frost (((((x", 3, 11);
        reads("frost (((((?", 1, 11);
        DripCups x = Checks.cave("cup 30 29 0;leaks 1+(1+(1+(1+(1+(1)))));");
        CHECKS.due("five within the first one", 23, () -> x.then(0, 1, 0));
        // each of the six has all five kinds of parts that wait
        String deep = "0 or 1 and 1 < 1 + 1 * (";
        DripCups y = Checks.cave("cup 30 29 0;leaks " + deep.repeat(5) + "0 or 1 and 1 < 1 + 1 * 1)))));");
        CHECKS.due("the deepest", 28, () -> y.then(0, 1, 0));
    }

    /** "2 .. the seventh 'not' side by side" */
    private static void nots() {
        String six = "not not not not not not ";
        good("leaks " + six + "1;");
        reads("leaks " + six + "not 1;", 2, 30);
        reads("leaks " + six + "not", 2, 30);
        reads("leaks " + six + "not not 1;", 2, 30);
        reads("leaks 1 or " + six + "\nnot", 2, 36);
        good("leaks " + six + "1 or " + six + "1 and " + six + "1;");
        good("leaks " + six + "(" + six + "(" + six + "1));");
        reads("leaks " + six + "(" + six + "not", 2, 55);
        good("leaks (((((" + six + "1)))));");
        reads("leaks " + six + "nots", 3, 30);
        reads("leaks " + six + ";", 1, 30);
    }

    /** "3 any word where a PART must stand that is no VALUE" */
    private static void words() {
        String[] none = {"x", "or", "and", "pipe", "leaks", "frost", "cups", "fills", "fil", "tip", "hours", "a", "z"};
        for (String ahead : new String[] {"", "not ", "1 or ", "1 and ", "1 < ", "1 = ", "1 + ", "1 - ", "1 * ", "1 / ", "("}) {
            for (String word : none) {
                reads("leaks " + ahead + word + ";", 3, 6 + ahead.length());
            }
            for (String word : new String[] {"fill", "holds", "spring", "tips", "cup", "hour"}) {
                good("leaks " + ahead + word + (ahead.equals("(") ? ");" : ";"));
            }
        }
        for (String ahead : new String[] {"1 < ", "1 = ", "1 + ", "1 - ", "1 * ", "1 / "}) {
            reads("leaks " + ahead + "not 1;", 3, 6 + ahead.length());
        }
        for (String ahead : new String[] {"", "not ", "1 or ", "1 and "}) {
            good("leaks " + ahead + "not 1;");
        }
    }

    /** "3 .. a CUP that isn't told ahead": the last that is told, and the one behind it, in each place of a 'pipe'. */
    private static void cupsToldAhead() {
        reads("pipe 0 1;", 3, 5);
        reads(CUP + "pipe 1 0;", 3, 15);
        reads(CUP + "pipe 0 1;", 3, 17);
        reads(CUP + "pipe 0 1;" + CUP, 3, 17);
        good(CUP + CUP + "pipe 0 1;" + CUP);
        reads(CUP + CUP + "pipe 0 2;" + CUP, 3, 27);
        reads(CUP + CUP + "pipe 0 1 2;" + CUP, 3, 29);
        good(CUP + CUP + CUP + "pipe 0 1 2;");
        reads(CUP + CUP + "pipe 2 3;", 3, 25);
        reads(CUP.repeat(9) + "pipe 9 9;", 3, 95);
        reads(CUP.repeat(9) + "pipe 0 9;", 3, 97);
        reads(CUP.repeat(9) + "pipe 0 9999;", 3, 97);
        good(CUP.repeat(9) + "pipe 0 8;");
        good(CUP.repeat(9) + "pipe 7 8;");
    }

    /** "4 a CUP that has a PIPE already (the first one of a 'pipe'), one INTO which it can't be (..)" */
    private static void pipesThatCannotBe() {
        String cups = CUP.repeat(4);
        reads(cups + "pipe 0 1;pipe 0 2;", 4, 54);
        reads(cups + "pipe 0 1;pipe 0 1;", 4, 54);
        reads(cups + "pipe 0 1 2;pipe 0", 4, 56);
        good(cups + "pipe 0 2;pipe 1 2;pipe 2 3;");
        good(cups + "pipe 2 3;pipe 1 3 2;pipe 0 1 2;");
        for (int from = 0; from < 4; from++) {
            for (int into = 0; into < 4; into++) {
                String text = cups + "pipe " + from + " " + into + ";";
                reads(text, into > from ? 0 : 4, into > from ? -1 : 47);
            }
        }
        for (int first = 2; first < 4; first++) {
            for (int second = 0; second < 4; second++) {
                boolean can = second > 1 && second != first;
                reads(cups + "pipe 1 " + first + " " + second + ";", can ? 0 : 4, can ? -1 : 49);
            }
        }
        reads(cups + "pipe 3 3;", 4, 47);
        reads(cups + "pipe 3 4;", 3, 47);
    }

    /** "5 a second 'leaks', 'frost'" */
    private static void secondRules() {
        good("leaks 1;frost 1;");
        good("frost 1;leaks 1;");
        reads("leaks 1;leaks 1;", 5, 8);
        reads("frost 1;frost 1;", 5, 8);
        reads("leaks 1;frost 1;frost", 5, 16);
        reads("frost 1;leaks 1;\n leaks ?", 5, 18);
        reads("leaks 0;leaks 0;", 5, 8);
    }

    /** "the first along the text, at a TOKEN's first byte, of one TOKEN the least" */
    private static void firstAndLeastFault() {
        reads("cup 1 0 0;cup 31 9 99;pipe 5 5;", 2, 14);
        reads("cup 1 9 99;", 2, 6);
        reads("cup 1 0 0;leaks x;?", 3, 16);
        reads("leaks ?x;", 1, 6);
        reads("leaks 1;leaks x;cup 0", 5, 8);
        // 1 and 2, 2 and 3, 2 and 4
        reads("leaks 1 12345;", 1, 8);
        reads("pipe 12345 0;", 2, 5);
        reads(CUP + "pipe 0 12345;", 2, 17);
        reads("leaks ((((((x", 2, 12);
        reads(CUP + CUP + "pipe 0 1;pipe 00000 1;", 2, 34);
        reads(CUP + CUP + "pipe 0 1 00001;", 2, 29);
    }
}
