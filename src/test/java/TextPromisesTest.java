/** Promises 1 to 4: a new object, feed, cave, fault. */
public final class TextPromisesTest {
    private static final Checks CHECKS = new Checks();

    public static void main(String[] args) {
        newObject();
        feed();
        caveAndItsExceptions();
        caveAnew();
        goodTexts();
        faultsOne();
        faultsTwo();
        faultsThreeToFive();
        rulesAsRead();
        fault();
        CHECKS.end();
    }

    private static void newObject() {
        DripCups x = new DripCups();
        for (int what = 0; what <= 12; what++) {
            int w = what;
            CHECKS.due("new: count " + what, 0, () -> x.count(w));
        }
        CHECKS.due("NONE", -1, () -> DripCups.NONE);
        CHECKS.due("new: fault", -1, () -> x.fault());
        CHECKS.due("new: undo", -1, () -> x.undo());
        CHECKS.is("new: restore", false, () -> x.restore());
        CHECKS.due("new: cup 0", Checks.NO_SUCH, () -> x.cup(0, 0));
        CHECKS.due("new: lead", Checks.NO_SUCH, () -> x.lead(0, -1) ? 1 : 0);
        CHECKS.due("new: hear", Checks.NO_SUCH, () -> x.hear(0, 1, true));
        CHECKS.due("new: together 1", Checks.ILLEGAL, () -> x.together(1));
        CHECKS.due("new: together 0", 1, () -> x.together(0));
        CHECKS.due("new: meeting 0", 1, () -> x.meeting(0));
        CHECKS.due("new: office", -1, () -> x.office(1, 0));
        CHECKS.due("new: office's hour", -1, () -> x.office(1, 1));
        CHECKS.due("new: led", -1, () -> x.led(1));
        CHECKS.due("new: listen", 0, () -> x.listen(1));
        CHECKS.due("new: years", 0, () -> x.years(7, 200, 2));
        CHECKS.due("new: oftenest", -1, () -> x.oftenest(200));
        CHECKS.due("new: round", 1, () -> x.round());
        CHECKS.due("new: sound", 200, () -> x.sound(200, 0));
        CHECKS.due("new: later", 0, () -> x.later(200, 2));
        CHECKS.due("new: chorus", 7, () -> x.chorus(0, 7));
        CHECKS.due("new: hours", 20, () -> x.hours(20));
    }

    private static void feed() {
        DripCups x = new DripCups();
        for (int n = 20; n <= 700; n += 20) {
            int many = n;
            CHECKS.due("feed to " + n, many, () -> x.feed(-1, 0, Integer.MIN_VALUE, 7, 0x20202020));
        }
        CHECKS.due("feed beyond 700", -1, () -> x.feed(0, 0, 0, 0, 0));
        CHECKS.due("bytes of the full tape", 700, () -> x.count(9));
        CHECKS.due("a full tape of no tokens", 1, () -> x.cave(700));
        CHECKS.due("bytes behind cave", 0, () -> x.count(9));

        // "cup 7 3 2;" and blanks, of each number the highest byte first
        CHECKS.due("feed", 20, () -> x.feed(0x63757020, 0x37203320, 0x323b2020, 0x20202020, 0x20202020));
        CHECKS.due("feed behind it", 40, () -> x.feed(0x63757020, 0x39203120, 0x303b0a0a, 0x0a0a0a0a, 0x0a0a0a0a));
        CHECKS.due("cave of what was fed", 0, () -> x.cave(40));
        CHECKS.due("holds of the first", 7, () -> x.cup(0, 0));
        CHECKS.due("holds of the second", 9, () -> x.cup(1, 0));
    }

    private static void caveAndItsExceptions() {
        DripCups x = Checks.cave("cup 4 1 3;");
        Checks.feed(x, "cup 0;");
        CHECKS.due("cave below 0", Checks.ILLEGAL, () -> x.cave(-1));
        CHECKS.due("cave beyond the tape", Checks.ILLEGAL, () -> x.cave(21));
        CHECKS.due("cave of the least", Checks.ILLEGAL, () -> x.cave(Integer.MIN_VALUE));
        CHECKS.due("tape stays", 20, () -> x.count(9));
        CHECKS.due("no text was refused", 0, () -> x.count(10));
        CHECKS.due("only the first bytes count", 1, () -> x.cave(4));
        CHECKS.due("it ends too soon", 4, () -> x.fault());
        CHECKS.due("the tape is empty behind a fault", 0, () -> x.count(9));
        CHECKS.due("one text was refused", 1, () -> x.count(10));
        CHECKS.due("the cup stays", 4, () -> x.cup(0, 0));
        CHECKS.due("an empty text", 0, () -> x.cave(0));
        CHECKS.due("no cups then", 0, () -> x.count(0));
    }

    private static void caveAnew() {
        DripCups x = Checks.cave("cup 2 0 1;cup 2 0 0;pipe 0 1;");
        x.hours(20);
        x.plug(0, true);
        x.hear(0, 1, true);
        x.image();
        x.hours(0);
        x.hear(0, 0, true);
        CHECKS.due("a text with a fault", 3, () -> Checks.read(x, "pipe 0 1;"));
        CHECKS.due("fault: the hour stays", 20, () -> x.count(1));
        CHECKS.due("fault: acts stay", 2, () -> x.count(7));
        CHECKS.due("fault: what is heard stays", 1, () -> x.count(8));
        CHECKS.due("fault: plugged stays", 1, () -> x.count(2));
        CHECKS.is("fault: the image stays", true, () -> x.restore());
        CHECKS.due("another text", 0, () -> Checks.read(x, "cup 3 1 1;"));
        CHECKS.due("anew: cups", 1, () -> x.count(0));
        CHECKS.due("anew: the hour", 0, () -> x.count(1));
        CHECKS.due("anew: plugged", 0, () -> x.count(2));
        CHECKS.due("anew: tipped", 0, () -> x.count(4));
        CHECKS.due("anew: acts", 0, () -> x.count(7));
        CHECKS.due("anew: heard", 0, () -> x.count(8));
        CHECKS.due("anew: no pipe", -1, () -> x.cup(0, 3));
        CHECKS.is("anew: no image", false, () -> x.restore());
        CHECKS.due("status of texts stays", 1, () -> x.count(10));
        CHECKS.due("status of acts stays", 1, () -> x.count(11));
        CHECKS.due("status of heard stays", 1, () -> x.count(12));
        Checks.read(x, "cup 3 1 1;leaks 1;frost 1;");
        Checks.read(x, "cup 3 1 1;");
        CHECKS.due("rules are gone with the old text", 2, () -> x.then(0, 1, 0));
    }

    private static void reads(String text, int fault, int place) {
        DripCups x = new DripCups();
        CHECKS.due("'" + text + "'", fault, () -> Checks.read(x, text));
        CHECKS.due("place in '" + text + "'", place, () -> x.fault());
    }

    private static void good(String text) {
        reads(text, 0, -1);
    }

    private static void goodTexts() {
        good("");
        good(" \n ");
        good("cup 30 29 20;");
        good("cup1 0 0;");
        good("cup0001 00 0020;");
        good("\ncup\n1 0\n0\n;\n");
        good("cup 1 0 0;cup 1 0 0;cup 1 0 0;pipe 0 2 1;pipe 1 2;");
        good("leaks 1;frost 0;cup 1 0 0;");
        good("cup 1 0 0;".repeat(9));
        good("leaks fill+holds-spring*tips/cup<hour;");
        good("leaks not not not not not not fill;");
        good("leaks not not not not not not fill and not not not not not not 1;");
        good("leaks not not not not(not not not not 1);");
        good("leaks (((((1)))));");
        good("leaks 9999;");
        good("leaks fill = 1 and not hour < 3 or cup = 0;");
    }

    private static void faultsOne() {
        reads("x", 1, 0);
        reads("  cups 1 0 0;", 1, 2);
        reads("fill;", 1, 0);
        reads("5;", 1, 0);
        reads("12345;", 1, 0);
        reads(";", 1, 0);
        reads("#", 1, 0);
        reads("Cup 1 0 0;", 1, 0);
        reads("cup\t1 0 0;", 1, 3);
        reads("cup 1 0 0; \u00e9", 1, 11);
        reads("cup", 1, 3);
        reads("cup 1 0 0", 1, 9);
        reads("cup 1 0 0  \n ", 1, 13);
        reads("cup 1 0;", 1, 7);
        reads("cup 1 0 0 0;", 1, 10);
        reads("cup 1 0 0 00000;", 1, 10);
        reads("cup x 0 0;", 1, 4);
        reads("cup -1 0 0;", 1, 4);
        reads("cup 1 0 0;pipe 0;", 1, 16);
        reads("cup 1 0 0;cup 1 0 0;pipe 0 1 fill;", 1, 29);
        reads("cup 1 0 0;cup 1 0 0;cup 1 0 0;cup 1 0 0;pipe 0 1 2 3;", 1, 51);
        reads("leaks;", 1, 5);
        reads("leaks", 1, 5);
        reads("leaks -1;", 1, 6);
        reads("leaks 1 2;", 1, 8);
        reads("leaks 1 12345;", 1, 8);
        reads("leaks 1 fill;", 1, 8);
        reads("leaks 1 not 2;", 1, 8);
        reads("leaks 1 < 2 < 3;", 1, 12);
        reads("leaks 1 = 2 < 3;", 1, 12);
        reads("leaks (1;", 1, 8);
        reads("leaks 1);", 1, 7);
        reads("leaks ();", 1, 7);
        reads("leaks 1 +;", 1, 9);
        reads("leaks not;", 1, 9);
        reads("leaks 1 or", 1, 10);
        reads("leaks ((((((;", 1, 12);
        reads("leaks (((((()", 1, 12);
    }

    private static void faultsTwo() {
        reads("cup 0 0 0;", 2, 4);
        reads("cup 31 0 0;", 2, 4);
        reads("cup 00001 0 0;", 2, 4);
        reads("cup 123456789012345678901234567890 0 0;", 2, 4);
        reads("cup 4 4 0;", 2, 6);
        reads("cup 1 1 0;", 2, 6);
        reads("cup 4 00000 0;", 2, 6);
        reads("cup 4 3 21;", 2, 8);
        reads("cup 4 3 9999;", 2, 8);
        reads("cup 1 0 0;".repeat(9) + " cup 1 0 0;", 2, 91);
        reads("cup 1 0 0;".repeat(9) + " cup", 2, 91);
        reads("cup 1 0 0;pipe 00000 1;", 2, 15);
        reads("cup 1 0 0;pipe 0 00001;", 2, 17);
        reads("cup 1 0 0;cup 1 0 0;pipe 0 1 00000;", 2, 29);
        reads("leaks 10000;", 2, 6);
        reads("frost fill+00000;", 2, 11);
        reads("leaks ((((((1))))));", 2, 12);
        reads("leaks (((((( x", 2, 13);
        reads("leaks ((((((or", 2, 12);
        reads("leaks ((((((not 1))))));", 2, 12);
        reads("leaks ((((((fill", 2, 12);
        reads("leaks (((((((1", 2, 12);
        reads("leaks not not not not not not not 1;", 2, 30);
        reads("leaks 1 or not not not not not not not", 2, 35);
    }

    private static void faultsThreeToFive() {
        reads("pipe 0 1;", 3, 5);
        reads("pipe 0 x;", 3, 5);
        reads("cup 1 0 0;pipe 1 0;", 3, 15);
        reads("cup 1 0 0;pipe 0 1;cup 1 0 0;", 3, 17);
        reads("cup 1 0 0;pipe 0 9999;", 3, 17);
        reads("cup 1 0 0;cup 1 0 0;pipe 0 1 2;", 3, 29);
        reads("leaks x;", 3, 6);
        reads("leaks a;", 3, 6);
        reads("leaks z;", 3, 6);
        reads("leaks 1 or notx;", 3, 11);
        reads("leaks leaks;", 3, 6);
        reads("leaks fills;", 3, 6);
        reads("leaks and;", 3, 6);
        reads("leaks 1 + not 2;", 3, 10);
        reads("leaks 1 < not 2;", 3, 10);
        reads("leaks (pipe);", 3, 7);
        reads("cup 1 0 0;pipe 0 0;", 4, 17);
        reads("cup 1 0 0;cup 1 0 0;pipe 1 0;", 4, 27);
        reads("cup 1 0 0;cup 1 0 0;pipe 0 1 0;", 4, 29);
        reads("cup 1 0 0;cup 1 0 0;pipe 0 1 1;", 4, 29);
        reads("cup 1 0 0;cup 1 0 0;pipe 0 1;pipe 0 x;", 4, 34);
        reads("leaks 1;leaks", 5, 8);
        reads("frost 1; frost 2;", 5, 9);
        reads("leaks 1;frost 2;leaks 3;", 5, 16);
    }

    /** What a rule gives, as the drops that a cup with 29 of 30 drops loses. */
    private static void gives(int drops, String expr) {
        DripCups x = Checks.cave("cup 30 29 0;leaks " + expr + ";");
        CHECKS.due("leaks " + expr, 29 - drops, () -> x.then(0, 1, 0));
    }

    private static void rulesAsRead() {
        gives(7, "1+2*3");
        gives(9, "(1+2)*3");
        gives(1, "8-4-3");
        gives(2, "16/4/2");
        gives(8, "9/2*2");
        gives(0, "5/0");
        gives(3, "3+7/0");
        gives(0, "3-5");
        // cut down to 0, not to the lesser number: (1-8)/2 is -3
        gives(7, "10+(1-8)/2");
        gives(29, "99");
        gives(1, "3<4");
        gives(0, "4<4");
        gives(1, "2+2=4");
        gives(5, "5");
        gives(5, "(5)");
        gives(1, "not 0");
        gives(0, "not 7");
        gives(1, "not not 7");
        gives(1, "not 4<3");
        gives(1, "5 or 0");
        gives(1, "0 or 1");
        gives(0, "0 or 0");
        gives(0, "5 and 0");
        gives(1, "5 and 6");
        gives(1, "1 or 1 and 0");
        gives(1, "0-1 and 1");
        gives(2, "(1<2)+(3=3)");
        gives(29, "fill");
        gives(28, "holds-2");
        gives(0, "spring");
        gives(0, "tips+cup+hour");
        // 43 times 99980001 wraps to 4172747
        gives(1, "9999*9999*43<9999*9999");
        DripCups x = Checks.cave("cup 30 20 1;cup 9 8 0;cup 5 4 3;leaks cup*3+hour+spring;");
        CHECKS.due("leaks by cup, hour, spring: 0", 20, () -> x.then(0, 1, 0));
        CHECKS.due("leaks by cup, hour, spring: 1", 5, () -> x.then(1, 1, 0));
        CHECKS.due("leaks by cup, hour, spring: 2", 0, () -> x.then(2, 1, 0));
        CHECKS.due("leaks by the next hour", 19, () -> x.then(0, 2, 0));
    }

    private static void fault() {
        DripCups x = new DripCups();
        CHECKS.due("fault of a new one", -1, () -> x.fault());
        Checks.read(x, "cup 1 0 0;x");
        CHECKS.due("fault", 10, () -> x.fault());
        CHECKS.due("cave that throws", Checks.ILLEGAL, () -> x.cave(1));
        CHECKS.due("fault stays", 10, () -> x.fault());
        Checks.read(x, "cup 1 0 0;");
        CHECKS.due("fault without", -1, () -> x.fault());
    }
}
