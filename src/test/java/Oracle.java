import java.math.BigInteger;
import java.util.ArrayDeque;
import java.util.ArrayList;
import java.util.Arrays;
import java.util.Deque;
import java.util.HashMap;
import java.util.HashSet;
import java.util.List;
import java.util.Map;
import java.util.PriorityQueue;
import java.util.Set;

/**
 * The document once more, written for plainness and not for speed: all rows, ways, sets and messages are gone through
 * one by one. It shares no line with the class.
 */
final class Oracle {
    interface Value {
        long of(Map<String, Integer> names, boolean[] cups);
    }

    interface Asked {
        boolean of(Map<String, Integer> names, boolean[] cups);
    }

    static final class Fault extends Exception {
        private static final long serialVersionUID = 1;
        final int what;
        final int where;

        Fault(int what, int where) {
            this.what = what;
            this.where = where;
        }
    }

    static final class Token {
        String signs;
        int at;
    }

    static final class Clause {
        String kind;
        int first;
        int second;
        Value law;
    }

    // ---- all that an image keeps

    static final class Moving {
        int[] place = new int[6];
        int[] trod = new int[6];
        boolean[] cups = new boolean[13];
        int late;
        int hour;
        int x = 293;
        List<int[]> book = new ArrayList<>();

        Moving copy() {
            Moving m = new Moving();
            m.place = place.clone();
            m.trod = trod.clone();
            m.cups = cups.clone();
            m.late = late;
            m.hour = hour;
            m.x = x;
            m.book = new ArrayList<>(book);
            return m;
        }
    }

    static final class World {
        Moving m = new Moving();
        Deque<Moving> past = new ArrayDeque<>();
        List<int[]> lodgers = new ArrayList<>(); // weight, floor, print
        List<List<Clause>> texts = new ArrayList<>();
        int ruling = -1;
        int[][] change = {{1, 1, 1}, {1, 1, 1}, {1, 1, 1}};
        int[][] sound = {{1, 1, 1}, {1, 1, 1}, {1, 1, 1}};
        List<Integer> heard = new ArrayList<>();
        List<String> words = new ArrayList<>();
        int[] heavy = {1, 1, 1, 1, 1, 1};
        List<int[]> said = new ArrayList<>();

        World copy() {
            World w = new World();
            w.m = m.copy();
            for (Moving p : past) {
                w.past.addLast(p.copy());
            }
            for (int[] l : lodgers) {
                w.lodgers.add(l.clone());
            }
            w.texts = new ArrayList<>(texts);
            w.ruling = ruling;
            for (int i = 0; i < 3; i++) {
                w.change[i] = change[i].clone();
                w.sound[i] = sound[i].clone();
            }
            w.heard = new ArrayList<>(heard);
            w.words = new ArrayList<>(words);
            w.heavy = heavy.clone();
            w.said = new ArrayList<>(said);
            return w;
        }
    }

    World w = new World();
    World image;
    StringBuilder tape = new StringBuilder();
    int fault = -1;
    int faultAt = -1;

    Oracle() {
        for (int s = 1; s <= 12; s++) {
            w.m.cups[s] = true;
        }
        image = w.copy();
    }

    // ---- I

    private boolean lodgerIs(int l) {
        return l >= 0 && l < w.lodgers.size();
    }

    private boolean stairIs(int s) {
        return s >= 1 && s <= 12;
    }

    private boolean placeIs(int p) {
        return p >= 0 && p <= 12;
    }

    private void step() {
        w.past.addLast(w.m.copy());
        if (w.past.size() > 30) {
            w.past.removeFirst();
        }
    }

    private int draw(int by) {
        int d = w.m.x % by;
        w.m.x = (int) ((w.m.x * 557L + 431L) % 30763L);
        return d;
    }

    private int trod(int l, boolean up, int n) {
        int to = w.m.place[l] + (up ? n : -n);
        w.m.place[l] = to;
        int loud = 0;
        if (to > 0 && w.m.cups[to]) {
            int t = ticksOf(w.ruling, l, to, up);
            if (t >= hearsOf(to) && t > 0) {
                loud = t;
                w.m.book.add(new int[] {w.m.hour, to, t});
                if (w.m.book.size() > 30) {
                    w.m.book.remove(0);
                }
            }
        }
        if (w.m.trod[l] < 9999) {
            w.m.trod[l]++;
        }
        return loud;
    }

    private boolean canTread(int l, boolean up, int n) {
        return lodgerIs(l) && n >= 1 && n <= 3 && placeIs(w.m.place[l] + (up ? n : -n));
    }

    private int anHour() {
        int heard = 0;
        w.m.late = draw(10);
        for (int l = 0; l < w.lodgers.size(); l++) {
            int d = draw(4);
            boolean up = d < 2;
            int n = d == 1 ? 2 : 1;
            if (d != 3 && canTread(l, up, n) && trod(l, up, n) > 0) {
                heard++;
            }
        }
        w.m.hour++;
        return heard;
    }

    int lodger(int weight, int floor) {
        if (weight < 1 || weight > 9 || floor < 1 || floor > 12 || w.lodgers.size() == 6) {
            return -1;
        }
        w.lodgers.add(new int[] {weight, floor, 0});
        return w.lodgers.size() - 1;
    }

    int tread(int l, boolean up, int n) {
        if (!canTread(l, up, n)) {
            return -1;
        }
        step();
        return trod(l, up, n);
    }

    boolean hang(int s, boolean cup) {
        if (!stairIs(s) || w.m.cups[s] == cup) {
            return false;
        }
        step();
        w.m.cups[s] = cup;
        return true;
    }

    int hour(int n) {
        if (n < 1 || n > 60 || w.m.hour + n > 9999) {
            return -1;
        }
        int heard = 0;
        for (int i = 0; i < n; i++) {
            step();
            heard += anHour();
        }
        return heard;
    }

    int undo() {
        if (w.past.isEmpty()) {
            return -1;
        }
        w.m = w.past.removeLast();
        return w.past.size();
    }

    int nights(int seed, int n) {
        if (seed < 0 || seed > 9999 || n < 1 || n > 40) {
            return -1;
        }
        step();
        w.m.x = seed * 2 + 293;
        for (int i = 0; i < n; i++) {
            int x = draw(1000000);
            int stair = 1 + (x / 6) % 12;
            switch (x % 6) {
                case 0, 1 -> {
                    if (!w.lodgers.isEmpty()) {
                        int l = x % w.lodgers.size();
                        if (canTread(l, x % 6 == 0, 1 + x % 3)) {
                            trod(l, x % 6 == 0, 1 + x % 3);
                        }
                    }
                }
                case 2 -> w.m.cups[stair] = true;
                case 3 -> w.m.cups[stair] = false;
                default -> {
                    if (w.m.hour < 9999) {
                        anHour();
                    }
                }
            }
        }
        return w.m.hour;
    }

    // ---- II

    int feed(int a, int b, int c, int d, int e) {
        if (tape.length() + 20 > 300) {
            return -1;
        }
        for (int f : new int[] {a, b, c, d, e}) {
            tape.append((char) (f >>> 24 & 255)).append((char) (f >>> 16 & 255));
            tape.append((char) (f >>> 8 & 255)).append((char) (f & 255));
        }
        return tape.length();
    }

    int end(int n) {
        if (n < 0 || n > tape.length()) {
            return -1;
        }
        tape.setLength(n);
        return n;
    }

    int text() {
        if (w.texts.size() == 4) {
            return -1;
        }
        String signs = tape.toString();
        tape.setLength(0);
        try {
            w.texts.add(new Parser(signs).text());
            fault = 0;
            faultAt = -1;
            return w.texts.size() - 1;
        } catch (Fault f) {
            fault = f.what;
            faultAt = f.where;
            return -1;
        }
    }

    int fault(int what) {
        return fault == -1 ? -1 : what == 0 ? fault : what == 1 ? faultAt : -1;
    }

    boolean by(int t) {
        if (t < -1 || t >= w.texts.size()) {
            return false;
        }
        w.ruling = t;
        return true;
    }

    int played(int t) {
        if (t < 0 || t >= w.texts.size()) {
            return -2;
        }
        List<Clause> clauses = w.texts.get(t);
        for (int i = 0; i < clauses.size(); i++) {
            Clause c = clauses.get(i);
            boolean done = switch (c.kind) {
                case "lodger" -> lodger(c.first, c.second) >= 0;
                case "up" -> tread(c.second, true, c.first) >= 0;
                case "down" -> tread(c.second, false, c.first) >= 0;
                case "hang" -> hang(c.first, true);
                case "unhang" -> hang(c.first, false);
                case "hour" -> {
                    int passed = 0;
                    while (passed < c.first && hour(1) >= 0) {
                        passed++;
                    }
                    yield passed == c.first;
                }
                default -> true;
            };
            if (!done) {
                return i;
            }
        }
        return -1;
    }

    private Value lawOf(int t, String kind) {
        if (t >= 0) {
            for (Clause c : w.texts.get(t)) {
                if (c.kind.equals(kind)) {
                    return c.law;
                }
            }
        }
        return null;
    }

    private int ticksOf(int t, int l, int s, boolean up) {
        int[] who = w.lodgers.get(l);
        Value law = lawOf(t, "ticks");
        if (law == null) {
            return who[0] + w.m.late;
        }
        Map<String, Integer> names = new HashMap<>();
        names.put("hour", w.m.hour);
        names.put("late", w.m.late);
        names.put("stair", s);
        names.put("weight", who[0]);
        names.put("floor", who[1]);
        names.put("who", l);
        names.put("trod", w.m.trod[l]);
        names.put("way", up ? 1 : 0);
        return (int) Math.max(0, Math.min(99, law.of(names, w.m.cups)));
    }

    private int hearsOf(int s) {
        Value law = lawOf(w.ruling, "hears");
        if (law == null) {
            return 8;
        }
        Map<String, Integer> names = new HashMap<>();
        names.put("hour", w.m.hour);
        names.put("late", w.m.late);
        names.put("stair", s);
        return (int) Math.max(0, Math.min(99, law.of(names, w.m.cups)));
    }

    static final class Parser {
        private static final List<String> SIGNS =
            List.of("<=", ">=", "<", ">", "=", "#", "+", "-", "*", "/", "(", ")", ";");
        private static final List<String> BOTH = List.of("hour", "late", "stair");
        private static final List<String> TICKS = List.of("weight", "floor", "who", "trod", "way");
        private final List<Token> tokens = new ArrayList<>();
        private int at = 0;
        private int open = 0;
        private String law = "";

        Parser(String s) {
            int i = 0;
            while (i < s.length()) {
                if (s.charAt(i) == ' ' || s.charAt(i) == '\n') {
                    i++;
                    continue;
                }
                Token t = new Token();
                t.at = i;
                String rest = s.substring(i);
                String letters = rest.replaceFirst("(?s)[^a-zA-Z].*", "");
                String digits = rest.replaceFirst("(?s)[^0-9].*", "");
                t.signs = !letters.isEmpty() ? letters : digits;
                for (String sign : SIGNS) {
                    if (t.signs.isEmpty() && rest.startsWith(sign)) {
                        t.signs = sign;
                    }
                }
                if (t.signs.isEmpty()) {
                    t.signs = "?";
                }
                i += t.signs.length();
                tokens.add(t);
            }
            Token last = new Token();
            last.at = s.length();
            last.signs = "";
            tokens.add(last);
        }

        private String see() {
            return tokens.get(at).signs;
        }

        private Fault bad(int what) {
            return new Fault(what, tokens.get(at).at);
        }

        private String eat() {
            return tokens.get(at++).signs;
        }

        private void need(String signs) throws Fault {
            if (!see().equals(signs)) {
                throw bad(1);
            }
            at++;
        }

        private int number(int low, int high) throws Fault {
            if (!see().matches("[0-9]+")) {
                throw bad(1);
            }
            BigInteger n = new BigInteger(see());
            if (n.compareTo(BigInteger.valueOf(low)) < 0 || n.compareTo(BigInteger.valueOf(high)) > 0) {
                throw bad(2);
            }
            at++;
            return n.intValue();
        }

        List<Clause> text() throws Fault {
            List<Clause> clauses = new ArrayList<>();
            Set<String> laws = new HashSet<>();
            while (!see().isEmpty()) {
                String kind = see();
                if (!List.of("ticks", "hears", "lodger", "up", "down", "hang", "unhang", "hour").contains(kind)) {
                    throw bad(1);
                }
                if ((kind.equals("ticks") || kind.equals("hears")) && !laws.add(kind)) {
                    throw bad(4);
                }
                if (clauses.size() == 24) {
                    throw bad(6);
                }
                at++;
                Clause c = new Clause();
                c.kind = kind;
                switch (kind) {
                    case "ticks", "hears" -> {
                        law = kind;
                        c.law = sum();
                    }
                    case "lodger" -> {
                        c.first = number(1, 9);
                        need("floor");
                        c.second = number(1, 12);
                    }
                    case "up", "down" -> {
                        c.first = number(1, 3);
                        need("by");
                        c.second = number(0, 5);
                    }
                    case "hour" -> c.first = number(1, 60);
                    default -> c.first = number(1, 12);
                }
                need(";");
                clauses.add(c);
            }
            return clauses;
        }

        private static long cut(long v) {
            return Math.max(-1000000, Math.min(1000000, v));
        }

        private Value sum() throws Fault {
            Value left = product();
            while (see().equals("+") || see().equals("-")) {
                boolean plus = eat().equals("+");
                Value a = left;
                Value b = product();
                left = (n, c) -> cut(plus ? a.of(n, c) + b.of(n, c) : a.of(n, c) - b.of(n, c));
            }
            return left;
        }

        private Value product() throws Fault {
            Value left = one();
            while (see().equals("*") || see().equals("/")) {
                boolean times = eat().equals("*");
                Value a = left;
                Value b = one();
                left = (n, c) -> {
                    long y = b.of(n, c);
                    return times ? cut(a.of(n, c) * y) : y == 0 ? 0 : a.of(n, c) / y;
                };
            }
            return left;
        }

        private void opens() throws Fault {
            if (open == 8) {
                throw bad(3);
            }
            open++;
            at++;
        }

        private Value one() throws Fault {
            String s = see();
            if (s.matches("[0-9]+")) {
                int v = number(0, 9999);
                return (n, c) -> v;
            }
            if (BOTH.contains(s) || TICKS.contains(s)) {
                if (law.equals("hears") && TICKS.contains(s)) {
                    throw bad(5);
                }
                at++;
                return (n, c) -> n.get(s);
            }
            if (!List.of("(", "-", "near", "cups", "if").contains(s)) {
                throw bad(1);
            }
            opens();
            Value v;
            if (s.equals("(")) {
                v = sum();
                need(")");
            } else if (s.equals("-")) {
                Value a = one();
                v = (n, c) -> -a.of(n, c);
            } else if (s.equals("near")) {
                Value a = one();
                need("of");
                Value b = one();
                v = (n, c) -> near(a.of(n, c), b.of(n, c));
            } else if (s.equals("cups")) {
                Value a = one();
                v = (n, c) -> {
                    long k = a.of(n, c);
                    return k >= 1 && k <= 12 && c[(int) k] ? 1 : 0;
                };
            } else {
                Asked which = either();
                need("then");
                Value a = sum();
                need("else");
                Value b = sum();
                need("end");
                v = (n, c) -> which.of(n, c) ? a.of(n, c) : b.of(n, c);
            }
            open--;
            return v;
        }

        private static long near(long a, long b) {
            if (b == 0) {
                return a < 0 ? -a : a;
            }
            long step = b < 0 ? -b : b;
            long below = Math.floorDiv(a, step) * step;
            return Math.min(a - below, below + step - a);
        }

        private Asked either() throws Fault {
            Asked left = both();
            while (see().equals("or")) {
                at++;
                Asked a = left;
                Asked b = both();
                left = (n, c) -> a.of(n, c) | b.of(n, c);
            }
            return left;
        }

        private Asked both() throws Fault {
            Asked left = ask();
            while (see().equals("and")) {
                at++;
                Asked a = left;
                Asked b = ask();
                left = (n, c) -> a.of(n, c) & b.of(n, c);
            }
            return left;
        }

        private Asked ask() throws Fault {
            if (see().equals("not")) {
                opens();
                Asked a = ask();
                open--;
                return (n, c) -> !a.of(n, c);
            }
            Value a = sum();
            String s = see();
            if (!List.of("<", "<=", ">", ">=", "=", "#").contains(s)) {
                throw bad(1);
            }
            at++;
            Value b = sum();
            return (n, c) -> {
                int d = Long.compare(a.of(n, c), b.of(n, c));
                return switch (s) {
                    case "<" -> d < 0;
                    case "<=" -> d <= 0;
                    case ">" -> d > 0;
                    case ">=" -> d >= 0;
                    case "=" -> d == 0;
                    default -> d != 0;
                };
            };
        }
    }

    // ---- what is so

    int of(int l, int what) {
        if (!lodgerIs(l)) {
            return -1;
        }
        int[] who = w.lodgers.get(l);
        return switch (what) {
            case 0 -> who[0];
            case 1 -> who[1];
            case 2 -> w.m.place[l];
            case 3 -> w.m.trod[l];
            case 4 -> who[2];
            default -> -1;
        };
    }

    int ticks(int l, int s, boolean up) {
        return lodgerIs(l) && stairIs(s) ? ticksOf(w.ruling, l, s, up) : -1;
    }

    int hears(int s) {
        return stairIs(s) ? hearsOf(s) : -1;
    }

    int is(int what) {
        int bits = 0;
        for (int s = 1; s <= 12; s++) {
            bits += w.m.cups[s] ? 1 << s : 0;
        }
        return switch (what) {
            case 0 -> w.m.hour;
            case 1 -> w.m.x;
            case 2 -> w.m.late;
            case 3 -> bits;
            default -> -2;
        };
    }

    int book(int i, int what) {
        if (i == -1) {
            return w.m.book.size();
        }
        return i < 0 || i >= w.m.book.size() || what < 0 || what > 2 ? -2 : w.m.book.get(i)[what];
    }

    // ---- III

    int foretold(int n, int l, int what) {
        if (n < 1 || n > 60 || !lodgerIs(l) || what < 0 || what > 1) {
            return -1;
        }
        World kept = w;
        w = w.copy();
        for (int i = 0; i < n; i++) {
            hour(1);
        }
        int answer = what == 0 ? w.m.place[l] : w.m.trod[l];
        w = kept;
        return answer;
    }

    private int loud(int l, int from, int to) {
        if (to == 0 || !w.m.cups[to]) {
            return 0;
        }
        int t = ticksOf(w.ruling, l, to, to > from);
        return t >= hearsOf(to) ? t : 0;
    }

    private boolean seek(int l, int from, int to, int left, List<Integer> way) {
        if (left == 0) {
            return from == to;
        }
        for (int next = from - 3; next <= from + 3; next++) {
            if (placeIs(next) && next != from && Math.abs(to - next) <= 3 * (left - 1) && loud(l, from, next) == 0) {
                way.add(next);
                if (seek(l, next, to, left - 1, way)) {
                    return true;
                }
                way.remove(way.size() - 1);
            }
        }
        return false;
    }

    int quiet(int l, int a, int b, int i) {
        if (!lodgerIs(l) || !placeIs(a) || !placeIs(b) || i < -1) {
            return -2;
        }
        // what can be reached at all, so that the search has an end
        Set<Integer> seen = new HashSet<>(Set.of(a));
        int far = 0;
        while (!seen.contains(b) && far < 13) {
            Set<Integer> more = new HashSet<>(seen);
            for (int p : seen) {
                for (int q = 0; q <= 12; q++) {
                    if (q != p && Math.abs(q - p) <= 3 && loud(l, p, q) == 0) {
                        more.add(q);
                    }
                }
            }
            seen = more;
            far++;
        }
        List<Integer> way = new ArrayList<>();
        if (!seen.contains(b) || !seek(l, a, b, far, way)) {
            return -2;
        }
        return i == -1 ? way.size() : i < way.size() ? way.get(i) : -2;
    }

    private long up(int l, int a, int b, int n) {
        if (a == b && n <= 0) {
            return 1;
        }
        long sum = 0;
        for (int next = a + 1; next <= a + 3 && next <= b && n != 0; next++) {
            if (l == -1 || loud(l, a, next) == 0) {
                sum += up(l, next, b, n - 1);
            }
        }
        return sum;
    }

    long ways(int a, int b) {
        return placeIs(a) && placeIs(b) && a <= b ? up(-1, a, b, -1) : -1;
    }

    long unheard(int l, int a, int b) {
        return lodgerIs(l) && placeIs(a) && placeIs(b) && a <= b ? up(l, a, b, -1) : -1;
    }

    long waysBy(int a, int b, int n) {
        return placeIs(a) && placeIs(b) && a <= b && n >= 0 && n <= 12 ? up(-1, a, b, n) : -1;
    }

    int loudest(int l) {
        if (!lodgerIs(l)) {
            return -1;
        }
        int best = -1;
        int most = 0;
        for (int s = 12; s >= 1; s--) {
            for (int from : new int[] {s - 1, s + 1}) {
                int d = loud(l, from, s);
                if (d > 0 && d >= most) {
                    most = d;
                    best = s;
                }
            }
        }
        return best;
    }

    int heardOn(int l, boolean up) {
        if (!lodgerIs(l)) {
            return -1;
        }
        int bits = 0;
        for (int s = 1; s <= 12; s++) {
            bits += loud(l, up ? s - 1 : s + 1, s) > 0 ? 1 << s : 0;
        }
        return bits;
    }

    int cupRow() {
        int best = 0;
        for (int a = 1; a <= 12; a++) {
            for (int b = a; b <= 12 && w.m.cups[b]; b++) {
                best = Math.max(best, b - a + 1);
            }
        }
        return best;
    }

    boolean change(int a, int b, int weight) {
        if (a < 0 || a > 2 || b < 0 || b > 2 || weight < 0 || weight > 9) {
            return false;
        }
        w.change[a][b] = weight;
        return true;
    }

    boolean sound(int a, int b, int weight) {
        if (a < 0 || a > 2 || b < 0 || b > 2 || weight < 0 || weight > 9) {
            return false;
        }
        w.sound[a][b] = weight;
        return true;
    }

    int listen(int s) {
        if (s == -1) {
            w.heard.clear();
            return 0;
        }
        if (s < 0 || s > 2 || w.heard.size() == 6) {
            return -2;
        }
        w.heard.add(s);
        return w.heard.size();
    }

    /** All rows of MOODS in their order, the first MOOD counting most. */
    private List<int[]> allRows() {
        int n = w.heard.size();
        List<int[]> all = new ArrayList<>();
        for (int code = 0; code < Math.pow(3, n); code++) {
            int[] row = new int[n];
            int rest = code;
            for (int i = n - 1; i >= 0; i--) {
                row[i] = rest % 3;
                rest /= 3;
            }
            all.add(row);
        }
        return all;
    }

    private BigInteger weight(int[] row) {
        BigInteger p = BigInteger.ONE;
        for (int i = 0; i < row.length; i++) {
            p = p.multiply(BigInteger.valueOf(w.sound[row[i]][w.heard.get(i)]));
            if (i > 0) {
                p = p.multiply(BigInteger.valueOf(w.change[row[i - 1]][row[i]]));
            }
        }
        return p;
    }

    private BigInteger sumOf(int i, int mood) {
        BigInteger sum = BigInteger.ZERO;
        for (int[] row : allRows()) {
            if (i < 0 || row[i] == mood) {
                sum = sum.add(weight(row));
            }
        }
        return sum;
    }

    private long lowest(BigInteger a, BigInteger b, boolean low) {
        if (b.signum() == 0) {
            return -1;
        }
        return (low ? b : a).divide(a.gcd(b)).longValueExact();
    }

    long weighed() {
        return sumOf(-1, 0).longValueExact();
    }

    private boolean heardIs(int i) {
        return i >= 0 && i < w.heard.size();
    }

    long mood(int i, int mood, boolean low) {
        return heardIs(i) && mood >= 0 && mood <= 2 ? lowest(sumOf(i, mood), sumOf(-1, 0), low) : -1;
    }

    int moods(int i) {
        if (!heardIs(i)) {
            return -1;
        }
        int bits = 0;
        for (int m = 0; m < 3; m++) {
            bits += sumOf(i, m).signum() > 0 ? 1 << m : 0;
        }
        return bits;
    }

    int likeliest(int i) {
        if (!heardIs(i)) {
            return -1;
        }
        BigInteger most = BigInteger.ZERO;
        int answer = -1;
        for (int[] row : allRows()) {
            if (weight(row).compareTo(most) > 0) {
                most = weight(row);
                answer = row[i];
            }
        }
        return answer;
    }

    private BigInteger comes(int s) {
        BigInteger sum = BigInteger.ZERO;
        for (int[] row : allRows()) {
            for (int m = 0; m < 3; m++) {
                int change = row.length == 0 ? 1 : w.change[row[row.length - 1]][m];
                sum = sum.add(weight(row).multiply(BigInteger.valueOf(change * w.sound[m][s])));
            }
        }
        return sum;
    }

    long next(int s, boolean low) {
        return s >= 0 && s <= 2 ? lowest(comes(s), comes(0).add(comes(1)).add(comes(2)), low) : -1;
    }

    // ---- IV

    int code(int word) {
        if (word == -1) {
            w.words.clear();
            return 0;
        }
        String s = String.valueOf(word);
        if (!s.matches("[12]{1,5}") || w.words.contains(s) || w.words.size() == 5) {
            return -2;
        }
        w.words.add(s);
        return w.words.size();
    }

    private int readings(String message) {
        if (message.isEmpty()) {
            return 1;
        }
        int sum = 0;
        for (String word : w.words) {
            if (message.startsWith(word)) {
                sum += readings(message.substring(word.length()));
            }
        }
        return sum;
    }

    private static String digits(int length, int bits) {
        StringBuilder s = new StringBuilder();
        for (int i = length - 1; i >= 0; i--) {
            s.append((bits >> i & 1) == 0 ? '1' : '2');
        }
        return s.toString();
    }

    /** First by trying all short messages, then by going on from rests, the shortest first. */
    int doubt() {
        for (int length = 1; length <= 7; length++) {
            for (int bits = 0; bits < 1 << length; bits++) {
                if (readings(digits(length, bits)) > 1) {
                    return length;
                }
            }
        }
        PriorityQueue<String> open = new PriorityQueue<>((a, b) -> Integer.compare(cost(a), cost(b)));
        for (String a : w.words) {
            for (String b : w.words) {
                if (!a.equals(b) && b.startsWith(a)) {
                    open.add(b.substring(a.length()) + ":" + b.length());
                }
            }
        }
        Set<String> done = new HashSet<>();
        while (!open.isEmpty()) {
            String top = open.poll();
            String rest = top.substring(0, top.indexOf(':'));
            if (rest.isEmpty()) {
                return cost(top);
            }
            if (done.add(rest)) {
                for (String word : w.words) {
                    if (rest.startsWith(word)) {
                        open.add(rest.substring(word.length()) + ":" + cost(top));
                    } else if (word.startsWith(rest)) {
                        open.add(word.substring(rest.length()) + ":" + (cost(top) + word.length() - rest.length()));
                    }
                }
            }
        }
        return -1;
    }

    private static int cost(String s) {
        return Integer.parseInt(s.substring(s.indexOf(':') + 1));
    }

    int clear() {
        return doubt() == -1 ? 1 : 0;
    }

    int free() {
        for (String a : w.words) {
            for (String b : w.words) {
                if (!a.equals(b) && a.startsWith(b)) {
                    return 0;
                }
            }
        }
        return 1;
    }

    int reads(int message) {
        return message < 1 || message > 99999999 ? -1 : readings(String.valueOf(message));
    }

    int unread() {
        for (int length = 1; length <= 8; length++) {
            for (int bits = 0; bits < 1 << length; bits++) {
                if (readings(digits(length, bits)) == 0) {
                    return Integer.parseInt(digits(length, bits));
                }
            }
        }
        return -1;
    }

    int room(boolean low) {
        BigInteger sum = BigInteger.ZERO;
        for (String word : w.words) {
            sum = sum.add(BigInteger.ONE.shiftLeft(20 - word.length()));
        }
        return (int) lowest(sum, BigInteger.ONE.shiftLeft(20), low);
    }

    private static boolean setIs(int set) {
        return set >= 0 && set <= 8190 && set % 2 == 0;
    }

    boolean print(int l, int stairs) {
        if (!lodgerIs(l) || !setIs(stairs)) {
            return false;
        }
        w.lodgers.get(l)[2] = stairs;
        return true;
    }

    int enough(boolean many) {
        for (int size = 0; size <= 12; size++) {
            for (int set = 0; set <= 8190; set += 2) {
                if (Integer.bitCount(set) == size) {
                    Set<Integer> seen = new HashSet<>();
                    for (int[] l : w.lodgers) {
                        seen.add(l[2] & set);
                    }
                    if (seen.size() == w.lodgers.size()) {
                        return many ? size : set;
                    }
                }
            }
        }
        return -1;
    }

    int fits(int stairs, int err) {
        if (!setIs(stairs) || err < 0 || err > 12) {
            return -1;
        }
        int bits = 0;
        for (int l = 0; l < w.lodgers.size(); l++) {
            int unlike = 0;
            for (int s = 1; s <= 12; s++) {
                unlike += (w.lodgers.get(l)[2] >> s) % 2 == (stairs >> s) % 2 ? 0 : 1;
            }
            bits += unlike <= err ? 1 << l : 0;
        }
        return bits;
    }

    private boolean has(int l, int s) {
        return (w.lodgers.get(l)[2] >> s & 1) == 1;
    }

    private int howMany(int s) {
        int n = 0;
        for (int l = 0; l < w.lodgers.size(); l++) {
            n += has(l, s) ? 1 : 0;
        }
        return n;
    }

    int alone(int l) {
        if (!lodgerIs(l)) {
            return -1;
        }
        int bits = 0;
        for (int s = 1; s <= 12; s++) {
            bits += has(l, s) && howMany(s) == 1 ? 1 << s : 0;
        }
        return bits;
    }

    int shared() {
        int bits = 0;
        for (int s = 1; s <= 12; s++) {
            bits += !w.lodgers.isEmpty() && howMany(s) == w.lodgers.size() ? 1 << s : 0;
        }
        return bits;
    }

    int which() {
        int n = w.lodgers.size();
        int best = -1;
        int left = 99;
        for (int s = 12; s >= 1 && n > 1; s--) {
            int most = Math.max(howMany(s), n - howMany(s));
            if (most <= left) {
                left = most;
                best = s;
            }
        }
        return best;
    }

    boolean heavy(int message, int weight) {
        if (message < 0 || message > 5 || weight < 1 || weight > 99) {
            return false;
        }
        w.heavy[message] = weight;
        return true;
    }

    /** All lengths 1 .. 5 for which there is a code none of whose words begins with another one. */
    private int cheapestFrom(int i, int n, int roomLeft) {
        if (i == n) {
            return 0;
        }
        int best = 1000000;
        for (int length = 1; length <= 5; length++) {
            if (32 >> length <= roomLeft) {
                int rest = cheapestFrom(i + 1, n, roomLeft - (32 >> length));
                best = Math.min(best, rest + w.heavy[i] * length);
            }
        }
        return best;
    }

    int cheapest(int n) {
        return n < 1 || n > 6 ? -1 : n == 1 ? 0 : cheapestFrom(0, n, 32);
    }

    int said(int l, int s, int t) {
        if (l == -1) {
            w.said.clear();
            return 0;
        }
        if (!lodgerIs(l) || !stairIs(s) || t < 0 || t > 99 || w.said.size() == 8) {
            return -2;
        }
        w.said.add(new int[] {l, s, t});
        return w.said.size();
    }

    int whose() {
        int bits = 0;
        for (int t = 0; t < w.texts.size(); t++) {
            boolean all = true;
            for (int[] s : w.said) {
                all &= ticksOf(t, s[0], s[1], true) == s[2];
            }
            bits += all ? 1 << t : 0;
        }
        return bits;
    }

    private int firstMost(int[] row) {
        int most = Arrays.stream(row).max().getAsInt();
        for (int l = 0; l < w.lodgers.size(); l++) {
            if (most > 0 && row[l] == most) {
                return l;
            }
        }
        return -1;
    }

    int highest() {
        return firstMost(w.m.place);
    }

    int restless() {
        return firstMost(w.m.trod);
    }

    int home() {
        int bits = 0;
        for (int l = 0; l < w.lodgers.size(); l++) {
            bits += w.m.place[l] == w.lodgers.get(l)[1] ? 1 << l : 0;
        }
        return bits;
    }

    int doubles() {
        int pairs = 0;
        for (int p = 0; p <= 12; p++) {
            int there = 0;
            for (int l = 0; l < w.lodgers.size(); l++) {
                there += w.m.place[l] == p ? 1 : 0;
            }
            pairs += there * (there - 1) / 2;
        }
        return pairs;
    }

    int pause() {
        int most = -1;
        for (int i = 0; i + 1 < w.m.book.size(); i++) {
            most = Math.max(most, w.m.book.get(i + 1)[0] - w.m.book.get(i)[0]);
        }
        return most;
    }

    int ledger(int s) {
        if (s != -1 && !stairIs(s)) {
            return -2;
        }
        return w.m.book.stream().filter(line -> s == -1 || line[1] == s).mapToInt(line -> line[2]).sum();
    }

    int image() {
        image = w.copy();
        return w.m.hour;
    }

    int back() {
        w = image.copy();
        return w.m.hour;
    }

    int about(int what) {
        return switch (what) {
            case 0 -> w.lodgers.size();
            case 1 -> w.texts.size();
            case 2 -> w.ruling;
            case 3 -> w.past.size();
            case 4 -> w.heard.size();
            case 5 -> w.words.size();
            case 6 -> w.said.size();
            case 7 -> tape.length();
            default -> -2;
        };
    }
}
