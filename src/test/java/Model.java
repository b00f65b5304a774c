import java.util.ArrayDeque;
import java.util.ArrayList;
import java.util.Deque;
import java.util.HashSet;
import java.util.List;
import java.util.NoSuchElementException;
import java.util.Set;
import java.util.regex.Matcher;
import java.util.regex.Pattern;

/**
 * The document once more, in another way and as slow as it likes: every drop falls by itself,
 * no question is answered by floors, and rules are trees. RandomRunsTest compares it with DripCups.
 */
final class Model {
    interface Expr {
        int of(State s, int cup);
    }

    static final class Fault extends RuntimeException {
        private static final long serialVersionUID = 1L;
        final int kind;
        final int place;

        Fault(int kind, int place) {
            this.kind = kind;
            this.place = place;
        }
    }

    static final class Token {
        final String text;
        final int place;

        Token(String text, int place) {
            this.text = text;
            this.place = place;
        }

        boolean number() {
            return text.matches("[0-9]+");
        }

        boolean word() {
            return text.matches("[a-z]+");
        }
    }

    static final class State {
        int hour;
        List<Integer> holds = new ArrayList<>();
        List<Integer> fill = new ArrayList<>();
        List<Integer> spring = new ArrayList<>();
        List<Integer> tips = new ArrayList<>();
        List<List<Integer>> into = new ArrayList<>();
        Set<Integer> plugged = new HashSet<>();
        Expr leaks;
        Expr frost;
        // counted from the copy on
        int[] times = new int[10];
        int[] came = new int[10];
        int[][] gave = new int[10][11];
        int lost;
        int bits;

        State copy() {
            State s = new State();
            s.hour = hour;
            s.holds.addAll(holds);
            s.fill.addAll(fill);
            s.spring.addAll(spring);
            s.tips.addAll(tips);
            for (List<Integer> row : into) {
                s.into.add(new ArrayList<>(row));
            }
            s.plugged.addAll(plugged);
            s.leaks = leaks;
            s.frost = frost;
            return s;
        }

        int size() {
            return holds.size();
        }

        void drop(int cup) {
            came[cup]++;
            fill.set(cup, fill.get(cup) + 1);
        }

        void tipFull(int cup) {
            while (fill.get(cup) >= holds.get(cup)) {
                fill.set(cup, fill.get(cup) - holds.get(cup));
                tips.set(cup, Math.min(1000000000, tips.get(cup) + 1));
                times[cup]++;
                bits |= 1 << cup;
                List<Integer> row = into.get(cup);
                if (row.isEmpty()) {
                    lost++;
                } else {
                    int to = row.remove(0);
                    row.add(to);
                    gave[cup][to]++;
                    drop(to);
                }
            }
        }

        /** weather: null asks FROST, else whether it is frozen. */
        void hour(Boolean frozen, boolean leaking) {
            bits = 0;
            for (int c = 0; c < size(); c++) {
                // what has come stands in fill already: FROST is asked about the fill without it
                boolean rests = plugged.contains(c);
                if (frozen != null) {
                    rests |= frozen;
                } else if (frost != null) {
                    rests |= frostOf(c) > 0;
                }
                for (int i = 0; !rests && i < spring.get(c); i++) {
                    drop(c);
                }
                tipFull(c);
            }
            for (int c = 0; leaking && leaks != null && c < size(); c++) {
                int leak = leaks.of(this, c);
                leak = leak < 0 ? 0 : leak > fill.get(c) ? fill.get(c) : leak;
                fill.set(c, fill.get(c) - leak);
                lost += leak;
            }
            hour++;
            startFill = new ArrayList<>(fill);
        }

        List<Integer> startFill;

        int frostOf(int c) {
            State s = copy();
            if (startFill == null) {
                throw new IllegalStateException("no fill at the hour's start");
            }
            s.fill.set(c, startFill.get(c));
            return frost.of(s, c);
        }

        void begin() {
            startFill = new ArrayList<>(fill);
        }

        void hours(int n) {
            begin();
            for (int i = 0; i < n; i++) {
                hour(null, true);
            }
        }

        void dry(int n) {
            begin();
            for (int i = 0; i < n; i++) {
                hour(false, false);
            }
        }

        void pour(int cup, int drops) {
            for (int i = 0; i < drops; i++) {
                drop(cup);
            }
            for (int c = 0; c < size(); c++) {
                tipFull(c);
            }
        }

        void crack(int cup, int h) {
            holds.set(cup, h);
            if (fill.get(cup) > h - 1) {
                fill.set(cup, h - 1);
            }
        }

        void lead(int cup, int to) {
            into.get(cup).clear();
            if (to >= 0) {
                into.get(cup).add(to);
            }
        }

        boolean ledJust(int cup, int to) {
            List<Integer> row = into.get(cup);
            return to < 0 ? row.isEmpty() : row.size() == 1 && row.get(0) == to;
        }
    }

    State s = new State();
    Deque<State> acts = new ArrayDeque<>();
    List<int[]> heard = new ArrayList<>();
    State imageState;
    Deque<State> imageActs;
    List<int[]> imageHeard;
    int[] status = new int[3];
    StringBuilder tape = new StringBuilder();
    int place = -1;

    // ---- reading ----

    private List<Token> tokens;
    private int at;
    private State draft;
    private static final Set<String> VALUES = Set.of("fill", "holds", "spring", "tips", "cup", "hour");

    private Token peek() {
        return tokens.get(at);
    }

    private boolean peekIs(String text) {
        return peek().text.equals(text);
    }

    private Fault fault(int kind) {
        return new Fault(kind, peek().place);
    }

    private int number(int least, int most, int beyond) {
        Token t = peek();
        if (!t.number()) {
            throw fault(1);
        }
        if (t.text.length() > 4) {
            throw fault(2);
        }
        int n = Integer.parseInt(t.text);
        if (n < least || n > most) {
            throw fault(beyond);
        }
        return n;
    }

    private void want(String sign) {
        if (!peekIs(sign)) {
            throw fault(1);
        }
        at++;
    }

    static State parse(String text) {
        Model m = new Model();
        m.tokens = new ArrayList<>();
        Matcher matcher = Pattern.compile("[a-z]+|[0-9]+|[^ \\n]", Pattern.DOTALL).matcher(text);
        while (matcher.find()) {
            m.tokens.add(new Token(matcher.group(), matcher.start()));
        }
        m.tokens.add(new Token("", text.length()));
        m.draft = new State();
        while (!m.peekIs("")) {
            m.line();
        }
        return m.draft;
    }

    private void line() {
        if (peekIs("cup")) {
            if (draft.size() == 9) {
                throw fault(2);
            }
            at++;
            int h = number(1, 30, 2);
            at++;
            int f = number(0, h - 1, 2);
            at++;
            int p = number(0, 20, 2);
            at++;
            want(";");
            draft.holds.add(h);
            draft.fill.add(f);
            draft.spring.add(p);
            draft.tips.add(0);
            draft.into.add(new ArrayList<>());
        } else if (peekIs("pipe")) {
            at++;
            int from = number(0, draft.size() - 1, 3);
            if (!draft.into.get(from).isEmpty()) {
                throw fault(4);
            }
            at++;
            List<Integer> row = new ArrayList<>();
            do {
                int to = number(0, draft.size() - 1, 3);
                if (to <= from || row.contains(to)) {
                    throw fault(4);
                }
                row.add(to);
                at++;
            } while (row.size() < 2 && !peekIs(";"));
            want(";");
            draft.into.get(from).addAll(row);
        } else if (peekIs("leaks")) {
            if (draft.leaks != null) {
                throw fault(5);
            }
            at++;
            Expr e = expr(0);
            want(";");
            draft.leaks = e;
        } else if (peekIs("frost")) {
            if (draft.frost != null) {
                throw fault(5);
            }
            at++;
            Expr e = expr(0);
            want(";");
            draft.frost = e;
        } else {
            throw fault(1);
        }
    }

    private Expr expr(int within) {
        if (within == 6) {
            throw fault(peek().number() || peek().word() || peekIs("(") ? 2 : 1);
        }
        Expr left = and(within);
        while (peekIs("or")) {
            at++;
            Expr a = left;
            Expr b = and(within);
            left = (s, c) -> truth(a.of(s, c) != 0 | b.of(s, c) != 0);
        }
        return left;
    }

    private static int truth(boolean is) {
        return is ? 1 : 0;
    }

    private Expr and(int within) {
        Expr left = not(within, 0);
        while (peekIs("and")) {
            at++;
            Expr a = left;
            Expr b = not(within, 0);
            left = (s, c) -> truth(a.of(s, c) != 0 & b.of(s, c) != 0);
        }
        return left;
    }

    private Expr not(int within, int nots) {
        if (peekIs("not")) {
            if (nots == 6) {
                throw fault(2);
            }
            at++;
            Expr e = not(within, nots + 1);
            return (s, c) -> truth(e.of(s, c) == 0);
        }
        Expr a = sum(within);
        if (peekIs("<") || peekIs("=")) {
            boolean less = peekIs("<");
            at++;
            Expr b = sum(within);
            return (s, c) -> truth(less ? a.of(s, c) < b.of(s, c) : a.of(s, c) == b.of(s, c));
        }
        return a;
    }

    private Expr sum(int within) {
        Expr left = product(within);
        while (peekIs("+") || peekIs("-")) {
            int sign = peekIs("+") ? 1 : -1;
            at++;
            Expr a = left;
            Expr b = product(within);
            left = (s, c) -> a.of(s, c) + sign * b.of(s, c);
        }
        return left;
    }

    private Expr product(int within) {
        Expr left = part(within);
        while (peekIs("*") || peekIs("/")) {
            boolean times = peekIs("*");
            at++;
            Expr a = left;
            Expr b = part(within);
            left = (s, c) -> {
                int x = a.of(s, c);
                int y = b.of(s, c);
                return times ? x * y : y == 0 ? 0 : (int) ((long) x / y);
            };
        }
        return left;
    }

    private Expr part(int within) {
        Token t = peek();
        if (t.number()) {
            int n = number(0, 9999, 9);
            at++;
            return (s, c) -> n;
        }
        if (t.word()) {
            if (!VALUES.contains(t.text)) {
                throw fault(3);
            }
            at++;
            return (s, c) -> switch (t.text) {
                case "fill" -> s.fill.get(c);
                case "holds" -> s.holds.get(c);
                case "spring" -> s.spring.get(c);
                case "tips" -> s.tips.get(c);
                case "cup" -> c;
                default -> s.hour;
            };
        }
        want("(");
        Expr e = expr(within + 1);
        want(")");
        return e;
    }

    int feed(int... five) {
        if (tape.length() + 20 > 700) {
            return -1;
        }
        for (int n : five) {
            for (int i = 3; i >= 0; i--) {
                tape.append((char) ((n >>> (8 * i)) & 0xff));
            }
        }
        return tape.length();
    }

    int cave(int n) {
        if (n < 0 || n > tape.length()) {
            throw new IllegalArgumentException();
        }
        String text = tape.substring(0, n);
        tape.setLength(0);
        try {
            s = parse(text);
        } catch (Fault f) {
            place = f.place;
            status[0]++;
            return f.kind;
        }
        place = -1;
        acts.clear();
        heard.clear();
        imageState = null;
        return 0;
    }

    // ---- asking ----

    private void cups(int... some) {
        for (int c : some) {
            if (c < 0 || c >= s.size()) {
                throw new NoSuchElementException();
            }
        }
    }

    private static void what(int what, int last) {
        if (what < 0 || what > last) {
            throw new NoSuchElementException();
        }
    }

    private static void range(int n, int a, int b) {
        if (n < a || n > b) {
            throw new IllegalArgumentException();
        }
    }

    private void bits(int some) {
        if (some < 0 || some >> s.size() != 0) {
            throw new IllegalArgumentException();
        }
    }

    private State after(int hours) {
        State t = s.copy();
        t.hours(hours);
        return t;
    }

    /** Bits of the cups that tip in each hour, from index 1 on. */
    private static int[] course(State from, int hours) {
        State t = from.copy();
        int[] row = new int[hours + 1];
        t.begin();
        for (int h = 1; h <= hours; h++) {
            t.hour(null, true);
            row[h] = t.bits;
        }
        return row;
    }

    int count(int what) {
        what(what, 12);
        int sum = 0;
        switch (what) {
            case 0: return s.size();
            case 1: return s.hour;
            case 2:
                for (int c : s.plugged) {
                    sum |= 1 << c;
                }
                return sum;
            case 3: return s.fill.stream().mapToInt(i -> i).sum();
            case 4: return (int) Math.min(1000000000L, s.tips.stream().mapToLong(i -> i).sum());
            case 5:
                for (int c = 0; c < s.size(); c++) {
                    int to = c;
                    sum |= s.into.stream().anyMatch(row -> row.contains(to)) ? 0 : 1 << c;
                }
                return sum;
            case 6:
                for (int a = 0; a < s.size(); a++) {
                    for (int b = 0; b < a; b++) {
                        sum += s.holds.get(a).equals(s.holds.get(b)) && s.fill.get(a).equals(s.fill.get(b))
                            && s.spring.get(a).equals(s.spring.get(b)) ? 1 : 0;
                    }
                }
                return sum;
            case 7: return acts.size();
            case 8: return heard.size();
            case 9: return tape.length();
            default: return status[what - 10];
        }
    }

    int cup(int cup, int what) {
        cups(cup);
        what(what, 8);
        List<Integer> row = s.into.get(cup);
        switch (what) {
            case 0: return s.holds.get(cup);
            case 1: return s.fill.get(cup);
            case 2: return s.spring.get(cup);
            case 3: return row.isEmpty() ? -1 : row.get(0);
            case 4: return row.isEmpty() ? -1 : row.get(row.size() - 1);
            case 5: return s.tips.get(cup);
            case 6: return s.plugged.contains(cup) ? 1 : 0;
            case 7: return deep(cup);
            default: return s.holds.get(cup) - s.fill.get(cup);
        }
    }

    private int deep(int cup) {
        int most = 0;
        for (int to : s.into.get(cup)) {
            most = Math.max(most, 1 + deep(to));
        }
        return most;
    }

    private void keep() {
        acts.push(s.copy());
        if (acts.size() > 40) {
            acts.removeLast();
        }
    }

    private int refuse() {
        status[1]++;
        return -1;
    }

    int hours(int many) {
        if (many < 1 || many > 20 || s.hour + many > 9999) {
            return refuse();
        }
        keep();
        s.hours(many);
        return s.hour;
    }

    int lead(int cup, int to) {
        cups(cup);
        if (to != -1) {
            cups(to);
        }
        if (s.ledJust(cup, to) || to != -1 && to <= cup) {
            return refuse() + 1;
        }
        keep();
        s.lead(cup, to);
        return 1;
    }

    int plug(int cup, boolean is) {
        cups(cup);
        if (s.plugged.contains(cup) == is) {
            return refuse() + 1;
        }
        keep();
        if (is) {
            s.plugged.add(cup);
        } else {
            s.plugged.remove(cup);
        }
        return 1;
    }

    int pour(int cup, int drops) {
        cups(cup);
        if (drops < 1 || drops > 50) {
            return refuse();
        }
        keep();
        int old = s.tips.get(cup);
        s.pour(cup, drops);
        return s.tips.get(cup) - old;
    }

    int crack(int cup, int holds) {
        cups(cup);
        int old = s.holds.get(cup);
        if (holds < 1 || holds > 30 || holds == old) {
            return refuse();
        }
        keep();
        s.crack(cup, holds);
        return old;
    }

    int undo() {
        if (acts.isEmpty()) {
            return -1;
        }
        s = acts.pop().copy();
        return acts.size();
    }

    int then(int cup, int hours, int what) {
        cups(cup);
        what(what, 1);
        range(hours, 0, 200);
        State t = after(hours);
        return what == 0 ? t.fill.get(cup) : t.times[cup];
    }

    int tipping(int k) {
        range(k, 1, 200);
        return course(s, k)[k];
    }

    int next(int cup) {
        cups(cup);
        return together(1 << cup);
    }

    int together(int some) {
        bits(some);
        int[] row = course(s, 200);
        for (int h = 1; h <= 200; h++) {
            if ((row[h] & some) == some) {
                return h;
            }
        }
        return -1;
    }

    int sound(int hours, int what) {
        what(what, 1);
        range(hours, 1, 200);
        int[] row = course(s, hours);
        int best = 0;
        for (int a = 1; a <= hours && what == 0; a++) {
            for (int b = a; b <= hours && row[b] == 0; b++) {
                best = Math.max(best, b - a + 1);
            }
        }
        for (int h = hours; h >= 1 && what == 1; h--) {
            if (best == 0 || Integer.bitCount(row[h]) >= Integer.bitCount(row[best])) {
                best = h;
            }
        }
        return best;
    }

    int fallen(int cup, int hours) {
        cups(cup);
        range(hours, 0, 1000000);
        State t = s.copy();
        t.dry(hours);
        return t.times[cup];
    }

    int nth(int cup, int n) {
        cups(cup);
        range(n, 1, 100000000);
        State t = s.copy();
        for (int h = 1; h <= 1000000; h++) {
            t.begin();
            t.hour(false, false);
            if (t.times[cup] >= n) {
                return h;
            }
        }
        return -1;
    }

    int meeting(int some) {
        bits(some);
        State t = s.copy();
        for (int h = 1; h <= 5000; h++) {
            t.begin();
            t.hour(false, false);
            if ((t.bits & some) == some) {
                return h;
            }
        }
        return -1;
    }

    int flow(int cup, int hours) {
        cups(cup);
        range(hours, 0, 1000000);
        State t = s.copy();
        t.dry(hours);
        return t.came[cup];
    }

    int tier(int cup, int what) {
        cups(cup);
        what(what, 1);
        int sum = 0;
        for (int c = 0; c < s.size(); c++) {
            if (c != cup && (what == 0 ? ways(c, cup) : ways(cup, c)) > 0) {
                sum |= 1 << c;
            }
        }
        return sum;
    }

    int toCrack(int cup, int times, int hours, int what) {
        cups(cup);
        what(what, 1);
        range(times, 0, Integer.MAX_VALUE);
        range(hours, 1, 60);
        int best = 0;
        long off = Long.MAX_VALUE;
        for (int h = 30; h >= 1; h--) {
            State t = s.copy();
            t.crack(cup, h);
            t.hours(hours);
            long o = Math.abs((long) t.times[cup] - times);
            if (o <= off) {
                off = o;
                best = h;
            }
        }
        return what == 0 ? best : (int) off;
    }

    int office(int k, int what) {
        what(what, 1);
        range(k, 1, 60);
        int[] row = course(s, 120);
        for (int d = 0; d <= 120; d++) {
            for (int h : new int[] {k - d, k + d}) {
                if (h >= 1 && h <= 120 && row[h] != 0) {
                    return what == 0 ? Integer.numberOfTrailingZeros(row[h]) : h;
                }
            }
        }
        return -1;
    }

    int hear(int cup, int k, boolean tips) {
        cups(cup);
        if (heard.size() == 8 || k < 1 || k > 40) {
            status[2]++;
            return -1;
        }
        heard.add(new int[] {cup, k, tips ? 1 : 0});
        return heard.size();
    }

    private boolean fits(int[] row) {
        return heard.stream().allMatch(h -> (row[h[1]] >> h[0] & 1) == h[2]);
    }

    private List<int[]> suspects(List<Integer> names) {
        List<int[]> rows = new ArrayList<>();
        for (int c = 0; c < s.size(); c++) {
            for (int sign = c + 1; sign <= 9; sign++) {
                int to = sign == 9 ? -1 : sign;
                if (to >= s.size() || s.ledJust(c, to)) {
                    continue;
                }
                State t = s.copy();
                t.lead(c, to);
                int[] row = course(t, 40);
                if (fits(row)) {
                    rows.add(row);
                    names.add(10 * c + sign);
                }
            }
        }
        return rows;
    }

    int led(int what) {
        what(what, 2);
        List<Integer> names = new ArrayList<>();
        suspects(names);
        switch (what) {
            case 0: return names.size();
            case 1: return names.isEmpty() ? -1 : names.get(0);
            default: return truth(fits(course(s, 40)));
        }
    }

    int listen(int what) {
        what(what, 1);
        List<int[]> rows = suspects(new ArrayList<>());
        int hour = -1;
        int most = 0;
        for (int h = 1; h <= 40; h++) {
            int k = h;
            int unlike = (int) rows.stream().map(row -> row[k]).distinct().count();
            if (unlike > most) {
                hour = h;
                most = unlike;
            }
        }
        return what == 0 ? hour : most;
    }

    int cold(int cup, int hours, int tenths) {
        cups(cup);
        range(hours, 1, 5);
        range(tenths, 0, 10);
        return cold(s.copy(), cup, hours, tenths);
    }

    private static int cold(State from, int cup, int hours, int tenths) {
        if (hours == 0) {
            return 0;
        }
        int sum = 0;
        for (int f = 0; f < 2; f++) {
            State t = from.copy();
            t.begin();
            t.hour(f == 1, true);
            int weight = f == 1 ? tenths : 10 - tenths;
            int rest = t.times[cup] > 0 ? (int) Math.pow(10, hours - 1) : cold(t, cup, hours - 1, tenths);
            sum += weight * rest;
        }
        return sum;
    }

    int game(int cup, int other, int what) {
        cups(cup, other);
        what(what, 1);
        if (cup == other) {
            throw new IllegalArgumentException();
        }
        int many = 0;
        int first = -1;
        for (int a = 0; a < 2; a++) {
            for (int b = 0; b < 2; b++) {
                if (gain(cup, other, a, b) >= gain(cup, other, 1 - a, b)
                        && gain(other, cup, b, a) >= gain(other, cup, 1 - b, a)) {
                    many++;
                    first = first == -1 ? 10 * a + b : first;
                }
            }
        }
        return what == 0 ? many : first;
    }

    private int gain(int own, int other, int a, int b) {
        State t = s.copy();
        if (a == 1) {
            t.plugged.add(own);
        }
        if (b == 1) {
            t.plugged.add(other);
        }
        t.hours(12);
        return (t.times[own] - t.times[other]) / 2 - a;
    }

    int years(int seed, int n, int what) {
        what(what, 2);
        range(n, 0, 200);
        State t = s.copy();
        int[] r = {seed};
        int sum = 0;
        int[] old;
        for (int h = 0; h < n; h++) {
            int act = draw(r, 6);
            if (act <= 2 && t.size() > 0) {
                int c = draw(r, t.size());
                if (act == 0 && !t.plugged.remove(c)) {
                    t.plugged.add(c);
                } else if (act == 1) {
                    t.crack(c, draw(r, 30) + 1);
                } else if (act == 2) {
                    int to = draw(r, t.size());
                    t.lead(c, to > c ? to : -1);
                }
            }
            t.hours(1);
        }
        int silent = 0;
        for (int c = 0; c < t.size(); c++) {
            sum += t.times[c];
            silent += t.times[c] == 0 ? 1 : 0;
        }
        return what == 0 ? sum : what == 1 ? t.fill.stream().mapToInt(i -> i).sum() : silent;
    }

    private static int draw(int[] r, int n) {
        r[0] = (int) (r[0] * 1103515245L + 12345L);
        return (int) (((r[0] & 0xffffffffL) / 65536 % 32768) % n);
    }

    int later(int hours, int what) {
        what(what, 2);
        range(hours, 0, 200);
        State t = after(hours);
        int best = -1;
        int dry = 0;
        for (int c = t.size() - 1; c >= 0; c--) {
            best = best == -1 || t.fill.get(c) >= t.fill.get(best) ? c : best;
            dry |= t.fill.get(c) == 0 ? 1 << c : 0;
        }
        return what == 0 ? best : what == 1 ? dry : t.lost;
    }

    int oftenest(int hours) {
        range(hours, 1, 200);
        State t = after(hours);
        int best = -1;
        for (int c = t.size() - 1; c >= 0; c--) {
            best = best == -1 || t.times[c] >= t.times[best] ? c : best;
        }
        return best;
    }

    int round() {
        for (int h = 1; h <= 200; h++) {
            if (after(h).fill.equals(s.fill)) {
                return h;
            }
        }
        return -1;
    }

    int pause(int cup) {
        cups(cup);
        int[] row = course(s, 200);
        List<Integer> when = new ArrayList<>();
        for (int h = 1; h <= 200; h++) {
            if ((row[h] >> cup & 1) == 1) {
                when.add(h);
            }
        }
        return when.size() < 2 ? -1 : when.get(1) - when.get(0);
    }

    int giver(int cup, int hours) {
        cups(cup);
        range(hours, 0, 1000000);
        State t = s.copy();
        t.dry(hours);
        int best = -1;
        for (int c = s.size() - 1; c >= 0; c--) {
            if (s.into.get(c).contains(cup) && (best == -1 || t.gave[c][cup] >= t.gave[best][cup])) {
                best = c;
            }
        }
        return best;
    }

    int toPour(int cup, int k) {
        cups(cup);
        range(k, 1, 60);
        for (int d = 0; d <= 50; d++) {
            State t = s.copy();
            t.pour(cup, d);
            if ((course(t, k)[k] >> cup & 1) == 1) {
                return d;
            }
        }
        return -1;
    }

    int ways(int cup, int other) {
        cups(cup, other);
        if (cup == other) {
            return 1;
        }
        int sum = 0;
        for (int to : s.into.get(cup)) {
            sum += ways(to, other);
        }
        return sum;
    }

    int chorus(int some, int hours) {
        bits(some);
        range(hours, 1, 200);
        int[] row = course(s, hours);
        int sum = 0;
        for (int h = 1; h <= hours; h++) {
            sum += (row[h] & some) == some ? 1 : 0;
        }
        return sum;
    }

    int never(int hours) {
        range(hours, 1, 200);
        int sum = (1 << s.size()) - 1;
        for (int b : course(s, hours)) {
            sum &= ~b;
        }
        return sum;
    }

    int swell(int cup, int hours) {
        cups(cup);
        range(hours, 0, 200);
        int most = 0;
        State t = s.copy();
        for (int h = 0; h <= hours; h++) {
            most = Math.max(most, t.fill.get(cup));
            t.hours(1);
        }
        return most;
    }

    void image() {
        imageState = s.copy();
        imageActs = new ArrayDeque<>(acts);
        imageHeard = new ArrayList<>(heard);
    }

    int restore() {
        if (imageState == null) {
            return 0;
        }
        s = imageState.copy();
        acts = new ArrayDeque<>(imageActs);
        heard = new ArrayList<>(imageHeard);
        return 1;
    }
}
