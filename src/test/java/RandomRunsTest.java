import java.util.ArrayList;
import java.util.List;
import java.util.Random;

/** Runs of random calls, compared with the slow model; the seeds are told, so each run is the same again. */
public final class RandomRunsTest {
    private static final String[] WORDS = {
        "cup", "pipe", "leaks", "frost", "or", "and", "not", "fill", "holds", "spring", "tips", "hour", "cups", "x",
        ";", "(", ")", "+", "-", "*", "/", "<", "=", "0", "1", "3", "9", "30", "31", "00012", "9999", "10000",
        "#", "A", "\t", "\u00e9", " ", "\n"};

    /** What an object answers is promised for 512 calls; a text takes up to 38, an act up to 45, the end 13. */
    private static final int MOST_CALLS = 512 - 38 - 45 - 13;

    private final Checks checks = new Checks();
    private final Random random;
    private final List<String> calls = new ArrayList<>();
    private DripCups x;
    private Model m;
    private int made = 0;

    private RandomRunsTest(long seed) {
        random = new Random(seed);
    }

    public static void main(String[] args) {
        int runs = args.length > 0 ? Integer.parseInt(args[0]) : 150;
        int from = args.length > 1 ? Integer.parseInt(args[1]) : 1;
        for (int seed = from; seed < from + runs; seed++) {
            RandomRunsTest test = new RandomRunsTest(seed);
            test.texts(400);
            test.run(160);
            if (test.checks.failed()) {
                System.out.println("seed " + seed + ", the latest calls:");
                int n = test.calls.size();
                test.calls.subList(Math.max(0, n - 60), n).forEach(System.out::println);
                System.exit(1);
            }
        }
        System.out.println(runs + " random runs are as the model's");
    }

    private int below(int n) {
        return random.nextInt(n);
    }

    // ---- texts ----

    private String expr(int within) {
        StringBuilder text = new StringBuilder();
        int parts = 1 + below(3);
        for (int i = 0; i < parts; i++) {
            if (i > 0) {
                String[] signs = {"+", "-", "*", "/", "<", "=", " or ", " and "};
                text.append(signs[below(signs.length)]);
            }
            int kind = below(12);
            if (i == 0 && kind == 0) {
                text.append("not ".repeat(1 + below(7)));
            }
            if (kind < 3 && within < 6) {
                text.append('(').append(expr(within + 1)).append(')');
            } else if (kind < 7) {
                text.append(below(5) == 0 ? below(10000) : below(6));
            } else {
                String[] values = {"fill", "holds", "spring", "tips", "cup", "hour"};
                text.append(values[below(values.length)]);
            }
        }
        return text.toString();
    }

    private String blank() {
        return below(6) == 0 ? " \n" : " ";
    }

    private String text(boolean piped) {
        StringBuilder text = new StringBuilder();
        int cups = below(8) == 0 ? 0 : 1 + below(9) + below(60) / 59;
        int springs = below(3) == 0 ? 21 : 5;
        int most = below(3) == 0 ? 30 : 6;
        for (int c = 0; c < cups; c++) {
            int holds = 1 + below(most);
            text.append("cup").append(blank()).append(holds).append(blank()).append(below(holds)).append(blank());
            text.append(below(springs)).append(";");
        }
        for (int c = 0; piped && c + 1 < cups; c++) {
            if (below(5) == 0) {
                continue;
            }
            int one = c + 1 + below(cups - c - 1);
            int two = c + 1 + below(cups - c - 1);
            text.append("pipe ").append(c).append(blank()).append(one);
            if (one != two && below(2) == 0) {
                text.append(blank()).append(two);
            }
            text.append(";");
        }
        if (below(2) == 0) {
            text.append("leaks ").append(below(2) == 0 ? expr(0) : "hour/3-hour/4*cup").append(";");
        }
        if (below(2) == 0) {
            text.append("frost").append(blank()).append(expr(0)).append(";");
        }
        return text.length() > 690 ? text(false) : text.toString();
    }

    private String spoilt(String text) {
        StringBuilder spoilt = new StringBuilder(text);
        for (int i = below(3); i >= 0; i--) {
            int at = below(spoilt.length() + 1);
            int kind = below(5);
            if (kind == 0 && at < spoilt.length()) {
                spoilt.delete(at, Math.min(spoilt.length(), at + 1 + below(3)));
            } else if (kind == 1 && at < spoilt.length() && Character.isDigit(spoilt.charAt(at))) {
                spoilt.setCharAt(at, (char) ('0' + below(10)));
            } else if (kind <= 2) {
                int end = spoilt.indexOf(";", at);
                String[] lines = {"leaks 1;", "frost fill;", "cup 2 1 1;", "pipe 0 1;", "pipe 1 2 1;", "pipe 2 1 3;"};
                spoilt.insert(end < 0 ? 0 : end + 1, lines[below(lines.length)]);
            } else {
                spoilt.insert(at, WORDS[below(WORDS.length)]);
            }
            if (below(8) == 0 && spoilt.length() > 0) {
                spoilt.setLength(below(spoilt.length()));
            }
        }
        return spoilt.length() > 700 ? spoilt.substring(0, 700) : spoilt.toString();
    }

    private void tell(String text) {
        calls.add("text " + text.replace("\n", "\\n"));
        for (int at = 0; at < text.length(); at += 20) {
            int[] five = new int[5];
            for (int i = 0; i < 20; i++) {
                five[i / 4] = five[i / 4] << 8 | (at + i < text.length() ? text.charAt(at + i) & 0xff : 32);
            }
            both("feed", m.feed(five), () -> x.feed(five[0], five[1], five[2], five[3], five[4]));
        }
        int n = Math.min(text.length(), m.tape.length());
        both("cave " + text, Checks.of(() -> m.cave(n)), () -> x.cave(n));
        both("fault", m.place, () -> x.fault());
    }

    private void both(String what, int want, Checks.Call got) {
        made++;
        checks.due(what, want, got);
    }

    private void begin() {
        x = new DripCups();
        m = new Model();
        made = 0;
        calls.clear();
    }

    private void call(String what, Checks.Call want, Checks.Call got) {
        int due = Checks.of(want);
        calls.add(what + " -> " + Checks.name(due));
        both(what, due, got);
    }

    private void texts(int many) {
        begin();
        for (int i = 0; i < many; i++) {
            if (made > MOST_CALLS) {
                begin();
            }
            String text = text(true);
            tell(below(4) == 0 ? text : spoilt(text));
            int what = below(13);
            call("count " + what, () -> m.count(what), () -> x.count(what));
        }
    }

    // ---- calls ----

    private int near(int least, int most) {
        int kind = below(20);
        if (kind == 0) {
            return least - 1;
        }
        if (kind == 1) {
            return most + 1;
        }
        if (kind == 2) {
            return least;
        }
        return kind == 3 ? most : least + below(most - least + 1);
    }

    private int cupOrNone() {
        return near(0, Math.max(0, m.s.size() - 1));
    }

    private int some() {
        int n = 1 << m.s.size();
        return below(15) == 0 ? n : below(30) == 0 ? -1 : below(n) & below(n);
    }

    private void run(int many) {
        begin();
        for (int i = 0; i < many && made <= MOST_CALLS; i++) {
            if (i == 3 || below(40) == 0) {
                String text = text(true);
                tell(below(10) == 0 ? spoilt(text) : text);
            }
            if (below(3) == 0) {
                act();
            } else if (below(2) == 0) {
                askNow();
            } else {
                askAhead();
            }
        }
        for (int what = 0; what < 13; what++) {
            int w = what;
            call("count " + w, () -> m.count(w), () -> x.count(w));
        }
    }

    private void act() {
        int c = cupOrNone();
        int d = near(-1, Math.max(0, m.s.size() - 1));
        boolean is = below(2) == 0;
        switch (below(12)) {
            case 0, 1: {
                int n = near(1, 20);
                call("hours " + n, () -> m.hours(n), () -> x.hours(n));
                break;
            }
            case 2:
                call("lead " + c + " " + d, () -> m.lead(c, d), () -> x.lead(c, d) ? 1 : 0);
                break;
            case 3:
                call("plug " + c + " " + is, () -> m.plug(c, is), () -> x.plug(c, is) ? 1 : 0);
                break;
            case 4: {
                int n = near(1, 50);
                call("pour " + c + " " + n, () -> m.pour(c, n), () -> x.pour(c, n));
                break;
            }
            case 5: {
                int n = near(1, 30);
                call("crack " + c + " " + n, () -> m.crack(c, n), () -> x.crack(c, n));
                break;
            }
            case 6, 7: {
                int n = below(5) == 0 ? 45 : 1;
                for (int i = 0; i < n; i++) {
                    call("undo", () -> m.undo(), () -> x.undo());
                }
                break;
            }
            case 8: {
                int k = near(1, 40);
                boolean tips = below(8) == 0 ? is : m.s.size() > 0 && c >= 0 && c < m.s.size()
                    && k >= 1 && (m.tipping(k) >> c & 1) == 1;
                call("hear " + c + " " + k + " " + tips, () -> m.hear(c, k, tips), () -> x.hear(c, k, tips));
                break;
            }
            case 9:
                if (below(3) == 0) {
                    x.forget();
                    made++;
                    m.heard.clear();
                    calls.add("forget");
                }
                break;
            case 10:
                x.image();
                made++;
                m.image();
                calls.add("image");
                break;
            default:
                call("restore", () -> m.restore(), () -> x.restore() ? 1 : 0);
                break;
        }
    }

    private void askNow() {
        int c = cupOrNone();
        int d = cupOrNone();
        switch (below(12)) {
            case 0, 1: {
                int w = near(0, 12);
                call("count " + w, () -> m.count(w), () -> x.count(w));
                break;
            }
            case 2, 3: {
                int w = near(0, 8);
                call("cup " + c + " " + w, () -> m.cup(c, w), () -> x.cup(c, w));
                break;
            }
            case 4: {
                int w = near(0, 1);
                call("tier " + c + " " + w, () -> m.tier(c, w), () -> x.tier(c, w));
                break;
            }
            case 5:
                call("ways " + c + " " + d, () -> m.ways(c, d), () -> x.ways(c, d));
                break;
            case 6: {
                int w = near(0, 2);
                call("led " + w, () -> m.led(w), () -> x.led(w));
                break;
            }
            case 7: {
                int w = near(0, 1);
                call("listen " + w, () -> m.listen(w), () -> x.listen(w));
                break;
            }
            case 8: {
                int h = near(1, 5);
                int t = near(0, 10);
                call("cold " + c + " " + h + " " + t, () -> m.cold(c, h, t), () -> x.cold(c, h, t));
                break;
            }
            case 9: {
                int w = near(0, 1);
                call("game " + c + " " + d + " " + w, () -> m.game(c, d, w), () -> x.game(c, d, w));
                break;
            }
            case 10: {
                int seed = random.nextInt();
                int n = near(0, 200);
                int w = near(0, 2);
                call("years " + seed + " " + n + " " + w, () -> m.years(seed, n, w), () -> x.years(seed, n, w));
                break;
            }
            default: {
                int t = below(20) == 0 ? Integer.MAX_VALUE : near(0, 60);
                int h = near(1, 60);
                int w = near(0, 1);
                String what = "toCrack " + c + " " + t + " " + h + " " + w;
                call(what, () -> m.toCrack(c, t, h, w), () -> x.toCrack(c, t, h, w));
                break;
            }
        }
    }

    private void askAhead() {
        int c = cupOrNone();
        int some = some();
        int h = near(0, 200);
        int far = below(20) == 0 ? near(999999, 1000000) + 1 : below(1500);
        int w = near(0, 1);
        switch (below(20)) {
            case 0, 1 -> call("then " + c + " " + h + " " + w, () -> m.then(c, h, w), () -> x.then(c, h, w));
            case 2 -> call("tipping " + h, () -> m.tipping(h), () -> x.tipping(h));
            case 3 -> call("next " + c, () -> m.next(c), () -> x.next(c));
            case 4 -> call("together " + some, () -> m.together(some), () -> x.together(some));
            case 5 -> call("sound " + h + " " + w, () -> m.sound(h, w), () -> x.sound(h, w));
            case 6 -> {
                if (far <= 2000 || far > 1000000) {
                    call("fallen " + c + " " + far, () -> m.fallen(c, far), () -> x.fallen(c, far));
                    call("flow " + c + " " + far, () -> m.flow(c, far), () -> x.flow(c, far));
                    call("giver " + c + " " + far, () -> m.giver(c, far), () -> x.giver(c, far));
                }
            }
            case 7 -> {
                // the model walks to a million hours where there is no n-th time
                int n = Checks.of(() -> m.fallen(c, 500)) - below(4);
                made++;
                if (Checks.of(() -> x.nth(c, n)) != -1) {
                    call("nth " + c + " " + n, () -> m.nth(c, n), () -> x.nth(c, n));
                }
            }
            case 8 -> call("meeting " + some, () -> m.meeting(some), () -> x.meeting(some));
            case 9 -> {
                int k = near(1, 60);
                call("office " + k + " " + w, () -> m.office(k, w), () -> x.office(k, w));
            }
            case 10, 11, 12 -> {
                int what = near(0, 2);
                call("later " + h + " " + what, () -> m.later(h, what), () -> x.later(h, what));
            }
            case 13 -> call("oftenest " + h, () -> m.oftenest(h), () -> x.oftenest(h));
            case 14 -> call("round", () -> m.round(), () -> x.round());
            case 15 -> call("pause " + c, () -> m.pause(c), () -> x.pause(c));
            case 16 -> {
                int k = near(1, 60);
                call("toPour " + c + " " + k, () -> m.toPour(c, k), () -> x.toPour(c, k));
            }
            case 17 -> call("chorus " + some + " " + h, () -> m.chorus(some, h), () -> x.chorus(some, h));
            case 18 -> call("never " + h, () -> m.never(h), () -> x.never(h));
            default -> call("swell " + c + " " + h, () -> m.swell(c, h), () -> x.swell(c, h));
        }
    }
}
