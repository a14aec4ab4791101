import java.util.ArrayDeque;
import java.util.ArrayList;
import java.util.Arrays;
import java.util.Deque;
import java.util.HashMap;
import java.util.HashSet;
import java.util.List;
import java.util.Map;
import java.util.Random;
import java.util.Set;

/**
 * The document told once more, minute by minute and choice by choice, with no care for speed: what
 * NineSaints answers is compared with it.
 */
final class Oracle {
    static final int NONE = -1;

    static final class Fault extends RuntimeException {
        private static final long serialVersionUID = 1;
        final int kind;
        final int place;

        Fault(int kind, int place) {
            super(null, null, false, false);
            this.kind = kind;
            this.place = place;
        }
    }

    interface Value {
        long of(int[] facts);
    }

    interface Check {
        boolean of(int[] facts);
    }

    static final class Town {
        int statements;
        final List<String> corners = new ArrayList<>();
        final List<Integer> parishes = new ArrayList<>();
        final List<int[]> lanes = new ArrayList<>();
        final List<String> saintNames = new ArrayList<>();
        final List<int[]> saints = new ArrayList<>();
        final List<int[]> balconies = new ArrayList<>();
        final List<Check> exceptions = new ArrayList<>();
        final List<Integer> words = new ArrayList<>();
        int rain = NONE;

        int laneBetween(int a, int b) {
            for (int i = 0; i < lanes.size(); i++) {
                int[] l = lanes.get(i);
                if (l[0] == a && l[1] == b || l[0] == b && l[1] == a) {
                    return i;
                }
            }
            return NONE;
        }

        int sound(int a, int b) {
            int n = corners.size();
            int[] best = new int[n];
            Arrays.fill(best, 999);
            best[a] = 0;
            for (int round = 0; round < n; round++) {
                for (int[] l : lanes) {
                    best[l[1]] = Math.min(best[l[1]], best[l[0]] + l[3]);
                    best[l[0]] = Math.min(best[l[0]], best[l[1]] + l[3]);
                }
            }
            return best[b];
        }
    }

    /** A whole text, cut into tokens first and read then. */
    static final class Parser {
        static final List<String> OWN = Arrays.asList(("corner parish lane long walls saint at pace loud petals "
                + "balcony from to worth but rain or and not all minute sort far first second min max").split(" "));
        final String text;
        final List<String> tokens = new ArrayList<>();
        final List<Integer> places = new ArrayList<>();
        int next;
        final Town town = new Town();

        Parser(String text) {
            this.text = text;
            int i = 0;
            while (i < text.length()) {
                char c = text.charAt(i);
                if (c == 32 || c == 10) {
                    i++;
                    continue;
                }
                int start = i++;
                if (low(c)) {
                    while (i < text.length() && low(text.charAt(i))) {
                        i++;
                    }
                } else if (digit(c)) {
                    while (i < text.length() && digit(text.charAt(i))) {
                        i++;
                    }
                }
                tokens.add(text.substring(start, i));
                places.add(start);
            }
        }

        static boolean low(char c) {
            return c >= 'a' && c <= 'z';
        }

        static boolean digit(char c) {
            return c >= '0' && c <= '9';
        }

        boolean done() {
            return next >= tokens.size();
        }

        int place() {
            return done() ? text.length() : places.get(next);
        }

        String peek() {
            return done() ? "" : tokens.get(next);
        }

        boolean glued() {
            if (next == 0 || done()) {
                return false;
            }
            char mine = peek().charAt(0);
            char before = tokens.get(next - 1).charAt(0);
            return (low(mine) || digit(mine)) && (low(before) || digit(before))
                    && places.get(next - 1) + tokens.get(next - 1).length() == places.get(next);
        }

        boolean stands(String token) {
            return !glued() && peek().equals(token);
        }

        void want(String token) {
            if (!stands(token)) {
                throw new Fault(1, place());
            }
            next++;
        }

        int number(int low, int high) {
            if (done() || glued() || !digit(peek().charAt(0))) {
                throw new Fault(1, place());
            }
            if (peek().length() > 4) {
                throw new Fault(1, place() + 4);
            }
            int value = Integer.parseInt(peek());
            if (value < low || value > high) {
                throw new Fault(2, place());
            }
            next++;
            return value;
        }

        String name() {
            if (done() || glued() || !low(peek().charAt(0)) || OWN.contains(peek())) {
                throw new Fault(1, place());
            }
            if (peek().length() > 6) {
                throw new Fault(1, place() + 6);
            }
            return peek();
        }

        String fresh() {
            String name = name();
            if (town.corners.contains(name) || town.saintNames.contains(name)) {
                throw new Fault(3, place());
            }
            next++;
            return name;
        }

        int corner() {
            int which = town.corners.indexOf(name());
            if (which < 0) {
                throw new Fault(3, place());
            }
            next++;
            return which;
        }

        Town read() {
            while (!done()) {
                if (town.statements == 70) {
                    throw new Fault(5, place());
                }
                statement();
                want(";");
                town.statements++;
            }
            return town;
        }

        void room(int size, int most) {
            if (size >= most) {
                throw new Fault(5, place());
            }
            next++;
        }

        void statement() {
            switch (peek()) {
                case "corner": {
                    room(town.corners.size(), 10);
                    String name = fresh();
                    want("parish");
                    town.parishes.add(number(1, 9));
                    town.corners.add(name);
                    break;
                }
                case "lane": {
                    room(town.lanes.size(), 16);
                    int a = corner();
                    int place = place();
                    int b = corner();
                    if (a == b || town.laneBetween(a, b) != NONE) {
                        throw new Fault(3, place);
                    }
                    want("long");
                    int length = number(1, 9);
                    want("walls");
                    town.lanes.add(new int[] {a, b, length, number(0, 9)});
                    break;
                }
                case "saint": {
                    room(town.saints.size(), 4);
                    String name = fresh();
                    want("at");
                    int at = corner();
                    want("pace");
                    int pace = number(1, 5);
                    want("loud");
                    int loud = number(0, 20);
                    want("petals");
                    town.saints.add(new int[] {at, pace, loud, number(0, 99)});
                    town.saintNames.add(name);
                    break;
                }
                case "balcony": {
                    room(town.balconies.size(), 10);
                    want("at");
                    int at = corner();
                    want("from");
                    int from = number(0, 999);
                    want("to");
                    int to = number(from, 999);
                    want("worth");
                    town.balconies.add(new int[] {at, from, to, number(1, 99)});
                    break;
                }
                case "but": {
                    room(town.exceptions.size(), 6);
                    int start = next;
                    town.exceptions.add(test(0));
                    int words = 0;
                    for (String token : tokens.subList(start, next)) {
                        words += low(token.charAt(0)) || digit(token.charAt(0)) ? 1 : 0;
                    }
                    town.words.add(words);
                    break;
                }
                case "rain":
                    next++;
                    town.rain = number(0, 999);
                    break;
                default:
                    throw new Fault(1, place());
            }
        }

        Check test(int open) {
            Check left = both(open);
            while (stands("or")) {
                next++;
                Check a = left;
                Check b = both(open);
                left = f -> a.of(f) | b.of(f);
            }
            return left;
        }

        Check both(int open) {
            Check left = fact(open);
            while (stands("and")) {
                next++;
                Check a = left;
                Check b = fact(open);
                left = f -> a.of(f) & b.of(f);
            }
            return left;
        }

        void open(int open) {
            if (open == 6) {
                throw new Fault(4, place());
            }
            next++;
        }

        Check fact(int open) {
            if (stands("not")) {
                open(open);
                Check inner = fact(open + 1);
                return f -> !inner.of(f);
            }
            if (stands("[")) {
                open(open);
                Check inner = test(open + 1);
                want("]");
                return inner;
            }
            if (stands("all")) {
                next++;
                return f -> true;
            }
            Value a = sum(open);
            String sign = peek();
            if (!sign.equals("<") && !sign.equals(">") && !sign.equals("=")) {
                throw new Fault(1, place());
            }
            next++;
            Value b = sum(open);
            if (sign.equals("<")) {
                return f -> a.of(f) < b.of(f);
            }
            return sign.equals(">") ? f -> a.of(f) > b.of(f) : f -> a.of(f) == b.of(f);
        }

        static long clamp(long x) {
            return Math.max(-1000000, Math.min(1000000, x));
        }

        Value sum(int open) {
            Value left = product(open);
            while (stands("+") || stands("-")) {
                boolean plus = stands("+");
                next++;
                Value a = left;
                Value b = product(open);
                left = plus ? f -> clamp(a.of(f) + b.of(f)) : f -> clamp(a.of(f) - b.of(f));
            }
            return left;
        }

        Value product(int open) {
            Value left = part(open);
            while (stands("*") || stands("/")) {
                boolean times = stands("*");
                next++;
                Value a = left;
                Value b = part(open);
                left = times ? f -> clamp(a.of(f) * b.of(f)) : f -> floor(a.of(f), b.of(f));
            }
            return left;
        }

        static long floor(long a, long b) {
            if (b == 0) {
                return 0;
            }
            long q = a / b;
            return q * b != a && a < 0 != b < 0 ? q - 1 : q;
        }

        Value part(int open) {
            if (stands("(")) {
                open(open);
                Value inner = sum(open + 1);
                want(")");
                return inner;
            }
            List<String> facts = Arrays.asList("minute", "sort", "far", "first", "second");
            int fact = glued() ? NONE : facts.indexOf(peek());
            if (fact >= 0) {
                next++;
                return f -> f[fact];
            }
            if (stands("min") || stands("max")) {
                boolean min = stands("min");
                next++;
                if (!stands("(")) {
                    throw new Fault(1, place());
                }
                open(open);
                Value a = sum(open + 1);
                want(",");
                Value b = sum(open + 1);
                want(")");
                return min ? f -> Math.min(a.of(f), b.of(f)) : f -> Math.max(a.of(f), b.of(f));
            }
            int n = number(0, 9999);
            return f -> n;
        }
    }

    /** A way gone minute by minute. */
    static final class Walk {
        final int[] at = new int[1000];
        final int[] on = new int[1000];
        final boolean[][] petals = new boolean[16][1000];
        final List<int[]> comes = new ArrayList<>();
        final Set<Integer> lanes = new HashSet<>();
        final boolean out;
        int end;
        int last;

        Walk(Town town, int saint, List<Integer> steps) {
            int[] s = town.saints.get(saint);
            Arrays.fill(on, NONE);
            out = !steps.isEmpty();
            last = s[0];
            Arrays.fill(at, last);
            if (out) {
                comes.add(new int[] {0, last});
            }
            for (int step : steps) {
                if (step >= 100) {
                    end += step - 100;
                    continue;
                }
                int lane = town.laneBetween(last, step);
                int came = end + town.lanes.get(lane)[2] * s[1];
                for (int m = end + 1; m <= came; m++) {
                    on[m] = lane;
                }
                Arrays.fill(at, came, 1000, step);
                for (int m = came; m < came + s[3] && m < 1000; m++) {
                    if (town.rain == NONE || m < town.rain || came >= town.rain) {
                        petals[lane][m] = true;
                    }
                }
                lanes.add(lane);
                comes.add(new int[] {came, step});
                end = came;
                last = step;
            }
        }
    }

    private final StringBuilder tape = new StringBuilder();
    private Town town = new Town();
    private int faultKind;
    private int faultPlace = NONE;
    private List<List<Integer>> ways = new ArrayList<>();
    private int shut;
    private int on;
    private final Deque<Object[]> past = new ArrayDeque<>();
    private int[] picture = new int[0];
    private final Map<String, Boolean> lawful = new HashMap<>();
    private final Map<String, Walk> walks = new HashMap<>();
    private final Map<Integer, int[]> plans = new HashMap<>();
    private final Map<Integer, Integer> soundOf = new HashMap<>();
    private final Map<Integer, List<List<Integer>>> routesOf = new HashMap<>();

    private int saints() {
        return town.saints.size();
    }

    private boolean isSaint(int s) {
        return s >= 0 && s < saints();
    }

    private void forget() {
        lawful.clear();
        plans.clear();
        routesOf.clear();
    }

    int feed(int a, int b, int c, int d, int e) {
        if (tape.length() + 20 > 1600) {
            return NONE;
        }
        for (int n : new int[] {a, b, c, d, e}) {
            tape.append((char) (n >>> 24)).append((char) (n >> 16 & 255)).append((char) (n >> 8 & 255))
                    .append((char) (n & 255));
        }
        return tape.length();
    }

    boolean end(int n) {
        if (n < 0 || n > tape.length()) {
            return false;
        }
        tape.setLength(n);
        return true;
    }

    int city() {
        String text = tape.toString();
        tape.setLength(0);
        try {
            town = new Parser(text).read();
        } catch (Fault fault) {
            faultKind = fault.kind;
            faultPlace = fault.place;
            return NONE;
        }
        faultKind = 0;
        faultPlace = NONE;
        ways = new ArrayList<>();
        for (int s = 0; s < saints(); s++) {
            ways.add(new ArrayList<>());
        }
        shut = 0;
        on = 0;
        past.clear();
        forget();
        walks.clear();
        soundOf.clear();
        return town.statements;
    }

    int fault(int what) {
        return what == 0 ? faultKind : what == 1 ? faultPlace : NONE;
    }

    int has(int what) {
        switch (what) {
            case 0: return town.corners.size();
            case 1: return town.lanes.size();
            case 2: return saints();
            case 3: return town.balconies.size();
            case 4: return town.exceptions.size();
            case 5: return town.rain;
            case 6: return new HashSet<>(town.parishes).size();
            case 7: return Integer.bitCount(shut);
            case 8: return on;
            case 9: return past.size();
            default: return NONE;
        }
    }

    int letter(int kind, int which, int k) {
        List<String> names = kind == 0 ? town.corners : kind == 1 ? town.saintNames : new ArrayList<>();
        if (which < 0 || which >= names.size() || k < 0 || k > 5) {
            return NONE;
        }
        return k < names.get(which).length() ? names.get(which).charAt(k) - 96 : 0;
    }

    int lane(int lane, int what) {
        if (lane < 0 || lane >= town.lanes.size() || what < 0 || what > 4) {
            return NONE;
        }
        return what == 4 ? shut >> lane & 1 : town.lanes.get(lane)[what];
    }

    int sound(int a, int b) {
        int n = town.corners.size();
        if (a < 0 || b < 0 || a >= n || b >= n) {
            return NONE;
        }
        return soundOf.computeIfAbsent(a * 10 + b, key -> town.sound(a, b));
    }

    private Walk walk(int s, List<Integer> steps) {
        return walks.computeIfAbsent(s + ":" + steps, key -> new Walk(town, s, steps));
    }

    private Walk own(int s) {
        return walk(s, ways.get(s));
    }

    private Walk[] all() {
        Walk[] all = new Walk[saints()];
        for (int s = 0; s < all.length; s++) {
            all[s] = own(s);
        }
        return all;
    }

    int saint(int s, int what) {
        if (!isSaint(s) || what < 0 || what > 6) {
            return NONE;
        }
        return what < 4 ? town.saints.get(s)[what] : what == 4 ? ways.get(s).size() : what == 5 ? own(s).end
                : own(s).last;
    }

    private void act() {
        List<List<Integer>> copy = new ArrayList<>();
        for (List<Integer> way : ways) {
            copy.add(new ArrayList<>(way));
        }
        past.addLast(new Object[] {copy, shut, on});
        if (past.size() > 20) {
            past.removeFirst();
        }
    }

    int go(int s, int corner) {
        if (!isSaint(s) || corner < 0 || corner >= town.corners.size() || ways.get(s).size() >= 24) {
            return NONE;
        }
        int lane = town.laneBetween(own(s).last, corner);
        if (lane == NONE || (shut >> lane & 1) == 1) {
            return NONE;
        }
        int comes = own(s).end + town.lanes.get(lane)[2] * town.saints.get(s)[1];
        if (comes > 999) {
            return NONE;
        }
        act();
        ways.get(s).add(corner);
        return comes;
    }

    int rest(int s, int minutes) {
        if (!isSaint(s) || minutes < 1 || minutes > 30 || ways.get(s).size() >= 24 || own(s).end + minutes > 999) {
            return NONE;
        }
        act();
        ways.get(s).add(100 + minutes);
        return own(s).end;
    }

    boolean clear(int s) {
        if (!isSaint(s) || ways.get(s).isEmpty()) {
            return false;
        }
        act();
        ways.get(s).clear();
        return true;
    }

    @SuppressWarnings("unchecked")
    boolean undo() {
        if (past.isEmpty()) {
            return false;
        }
        Object[] was = past.removeLast();
        ways = (List<List<Integer>>) was[0];
        shut = (Integer) was[1];
        on = (Integer) was[2];
        forget();
        return true;
    }

    int where(int s, int minute) {
        return isSaint(s) && minute >= 0 && minute <= 999 ? own(s).at[minute] : NONE;
    }

    int on(int s, int minute) {
        return isSaint(s) && minute >= 0 && minute <= 999 ? own(s).on[minute] : NONE;
    }

    int petals(int lane, int minute) {
        if (lane < 0 || lane >= town.lanes.size() || minute < 0 || minute > 999) {
            return NONE;
        }
        int bits = 0;
        for (int s = 0; s < saints(); s++) {
            bits |= own(s).petals[lane][minute] ? 1 << s : 0;
        }
        return bits;
    }

    int passes(int s, int parish) {
        if (!isSaint(s)) {
            return NONE;
        }
        for (int[] come : own(s).comes) {
            if (town.parishes.get(come[1]) == parish) {
                return come[0];
            }
        }
        return NONE;
    }

    /** Whether two saints clash so in a minute; by lanes told as bits alone, if of petals. */
    private boolean clash(int s, Walk a, int t, Walk b, int minute, int sort, int lanes) {
        if (sort == 0) {
            return a.out && b.out && minute <= a.end && minute <= b.end && sound(a.at[minute], b.at[minute])
                    <= Math.max(town.saints.get(s)[2], town.saints.get(t)[2]);
        }
        int la = a.on[minute];
        int lb = b.on[minute];
        return la >= 0 && (lanes >> la & 1) == 1 && b.petals[la][minute]
                || lb >= 0 && (lanes >> lb & 1) == 1 && a.petals[lb][minute];
    }

    private boolean excepted(int s, Walk a, int t, Walk b, int minute, int sort, int by) {
        int[] facts = {minute, sort, sort == 0 ? sound(a.at[minute], b.at[minute]) : 0, s, t};
        for (int e = 0; e < town.exceptions.size(); e++) {
            if ((by >> e & 1) == 1 && town.exceptions.get(e).of(facts)) {
                return true;
            }
        }
        return false;
    }

    int clash(int what) {
        Walk[] w = all();
        for (int minute = 0; minute < 1000; minute++) {
            for (int sort = 0; sort < 2; sort++) {
                for (int s = 0; s < saints(); s++) {
                    for (int t = s + 1; t < saints(); t++) {
                        if (clash(s, w[s], t, w[t], minute, sort, 0xffff)
                                && !excepted(s, w[s], t, w[t], minute, sort, on)) {
                            return what == 0 ? minute : what == 1 ? sort : what == 2 ? s : what == 3 ? t : NONE;
                        }
                    }
                }
            }
        }
        return NONE;
    }

    int clashes(int sort) {
        Walk[] w = all();
        if (sort != 0 && sort != 1) {
            return NONE;
        }
        int sum = 0;
        for (int s = 0; s < saints(); s++) {
            for (int t = s + 1; t < saints(); t++) {
                for (int minute = 0; minute < 1000; minute++) {
                    sum += clash(s, w[s], t, w[t], minute, sort, 0xffff) ? 1 : 0;
                }
            }
        }
        return sum;
    }

    int meet(int first, int second) {
        if (!isSaint(first) || !isSaint(second) || first == second) {
            return NONE;
        }
        Walk a = own(first);
        Walk b = own(second);
        for (int minute = 0; minute < 1000; minute++) {
            for (int sort = 0; sort < 2; sort++) {
                if (clash(first, a, second, b, minute, sort, 0xffff)) {
                    return minute;
                }
            }
        }
        return NONE;
    }

    int pleased() {
        int sum = 0;
        for (int[] balcony : town.balconies) {
            boolean glad = false;
            for (int s = 0; s < saints(); s++) {
                for (int[] come : own(s).comes) {
                    glad |= come[1] == balcony[0] && come[0] >= balcony[1] && come[0] <= balcony[2];
                }
            }
            sum += glad ? balcony[3] : 0;
        }
        return sum;
    }

    boolean but(int bits) {
        if (bits < 0 || bits >= 1 << town.exceptions.size() || bits == on) {
            return false;
        }
        act();
        on = bits;
        forget();
        return true;
    }

    int words(int e) {
        return e < 0 || e >= town.words.size() ? NONE : town.words.get(e);
    }

    private boolean lawfulPair(int s, Walk a, int t, Walk b, int by) {
        for (int minute = 0; minute < 1000; minute++) {
            for (int sort = 0; sort < 2; sort++) {
                if (clash(s, a, t, b, minute, sort, 0xffff) && !excepted(s, a, t, b, minute, sort, by)) {
                    return false;
                }
            }
        }
        return true;
    }

    int softer(int what) {
        Walk[] w = all();
        if (what != 0 && what != 1) {
            return NONE;
        }
        int best = NONE;
        int bestWords = 0;
        for (int bits = 0; bits < 1 << town.exceptions.size(); bits++) {
            boolean good = true;
            for (int s = 0; s < saints() && good; s++) {
                for (int t = s + 1; t < saints() && good; t++) {
                    good = lawfulPair(s, w[s], t, w[t], bits);
                }
            }
            int sum = 0;
            for (int e = 0; e < town.words.size(); e++) {
                sum += (bits >> e & 1) * town.words.get(e);
            }
            if (good && (best == NONE || sum < bestWords)) {
                best = bits;
                bestWords = sum;
            }
        }
        return what == 0 || best == NONE ? best : bestWords;
    }

    boolean shut(int lane, boolean is) {
        if (lane < 0 || lane >= town.lanes.size() || (shut >> lane & 1) == 1 == is) {
            return false;
        }
        act();
        shut ^= 1 << lane;
        forget();
        return true;
    }

    int sweep(int k) {
        Walk[] w = all();
        List<Integer> swept = new ArrayList<>();
        for (int lane = 0; lane < town.lanes.size(); lane++) {
            boolean foul = false;
            for (int s = 0; s < saints(); s++) {
                for (int t = s + 1; t < saints(); t++) {
                    for (int minute = 0; minute < 1000; minute++) {
                        foul |= clash(s, w[s], t, w[t], minute, 1, 1 << lane)
                                && !excepted(s, w[s], t, w[t], minute, 1, on);
                    }
                }
            }
            if (foul) {
                swept.add(lane);
            }
        }
        return k == NONE ? swept.size() : k < 0 || k >= swept.size() ? NONE : swept.get(k);
    }

    private List<List<Integer>> allRoutes(int s) {
        return routesOf.computeIfAbsent(s, key -> {
            List<List<Integer>> found = new ArrayList<>();
            List<Integer> row = new ArrayList<>();
            row.add(town.saints.get(s)[0]);
            extend(row, found);
            return found.size() > 20 ? new ArrayList<>(found.subList(0, 20)) : found;
        });
    }

    private void extend(List<Integer> row, List<List<Integer>> found) {
        List<Integer> parishes = new ArrayList<>();
        for (int corner : row) {
            parishes.add(town.parishes.get(corner));
        }
        Set<Integer> seen = new HashSet<>(parishes);
        if (seen.size() < parishes.size()) {
            return;
        }
        if (seen.equals(new HashSet<>(town.parishes))) {
            found.add(new ArrayList<>(row));
        }
        for (int next = 0; next < town.corners.size(); next++) {
            int lane = town.laneBetween(row.get(row.size() - 1), next);
            if (lane != NONE && (shut >> lane & 1) == 0 && !row.contains(next)) {
                row.add(next);
                extend(row, found);
                row.remove(row.size() - 1);
            }
        }
    }

    int routes(int s) {
        return isSaint(s) ? allRoutes(s).size() : NONE;
    }

    int route(int s, int route, int k) {
        if (!isSaint(s) || route < 0 || route >= allRoutes(s).size()) {
            return NONE;
        }
        List<Integer> row = allRoutes(s).get(route);
        return k < 0 || k >= row.size() ? NONE : row.get(k);
    }

    private List<Integer> option(int s, int option) {
        List<Integer> steps = new ArrayList<>();
        if (option % 3 > 0) {
            steps.add(100 + 5 * (option % 3));
        }
        List<Integer> row = allRoutes(s).get(option / 3);
        steps.addAll(row.subList(1, row.size()));
        return steps;
    }

    private int options(int s) {
        return 3 * allRoutes(s).size();
    }

    /** The steps of a choice: NONE for those of the way as it is. */
    private List<Integer> choice(int s, int choice) {
        return choice == NONE ? ways.get(s) : option(s, choice);
    }

    private boolean fit(int s, List<Integer> a, int t, List<Integer> b) {
        if (s > t) {
            return fit(t, b, s, a);
        }
        return lawful.computeIfAbsent(s + ":" + a + t + ":" + b, key -> lawfulPair(s, walk(s, a), t, walk(t, b), on));
    }

    private int[] bestRow;
    private long bestCost;

    /** All rows of choices in their order; the first of the least cost stays. */
    private void search(int[] row, int s, int without, boolean staying, long cost) {
        if (s == saints()) {
            if (bestRow == null || cost < bestCost) {
                bestRow = row.clone();
                bestCost = cost;
            }
            return;
        }
        if ((without >> s & 1) == 1) {
            row[s] = -2;
            search(row, s + 1, without, staying, cost);
            return;
        }
        for (int c = staying ? NONE : 0; c < options(s); c++) {
            List<Integer> mine = choice(s, c);
            boolean good = c != NONE || !barred(s);
            for (int t = 0; t < s && good; t++) {
                good = row[t] == -2 || fit(t, choice(t, row[t]), s, mine);
            }
            if (good) {
                row[s] = c;
                search(row, s + 1, without, staying, cost + walk(s, mine).end + (staying && c != NONE ? 1000000 : 0));
            }
        }
    }

    private boolean barred(int s) {
        for (int lane : own(s).lanes) {
            if ((shut >> lane & 1) == 1) {
                return true;
            }
        }
        return false;
    }

    private int[] plan(int without) {
        if (!plans.containsKey(without)) {
            bestRow = null;
            search(new int[saints()], 0, without, false, 0);
            plans.put(without, bestRow);
        }
        return plans.get(without);
    }

    private int ends(int[] row) {
        int sum = 0;
        for (int s = 0; s < saints(); s++) {
            sum += walk(s, choice(s, row[s])).end;
        }
        return sum;
    }

    int together(int k) {
        int[] row = plan(0);
        return row == null ? NONE : k == NONE ? ends(row) : isSaint(k) ? row[k] : NONE;
    }

    int bars() {
        for (int fewest = 0; fewest <= 4; fewest++) {
            for (int bits = 0; bits < 1 << saints(); bits++) {
                if (Integer.bitCount(bits) == fewest && plan(bits) != null) {
                    return bits;
                }
            }
        }
        throw new IllegalStateException();
    }

    int take() {
        int[] row = plan(0);
        if (row == null || saints() == 0) {
            return NONE;
        }
        act();
        int sum = ends(row);
        for (int s = 0; s < saints(); s++) {
            ways.set(s, option(s, row[s]));
        }
        return sum;
    }

    int mend() {
        bestRow = null;
        search(new int[saints()], 0, 0, true, 0);
        if (bestRow == null) {
            return NONE;
        }
        int changed = 0;
        for (int c : bestRow) {
            changed += c != NONE ? 1 : 0;
        }
        if (changed > 0) {
            act();
            for (int s = 0; s < saints(); s++) {
                ways.set(s, choice(s, bestRow[s]));
            }
        }
        return changed;
    }

    private boolean fitsOthers(int s, List<Integer> steps) {
        for (int t = 0; t < saints(); t++) {
            if (t != s && !fit(s, steps, t, ways.get(t))) {
                return false;
            }
        }
        return true;
    }

    int turn() {
        List<Object[]> before = new ArrayList<>(past);
        act();
        int took = 0;
        for (int s = 0; s < saints(); s++) {
            int best = NONE;
            for (int o = 0; o < options(s); o++) {
                if (fitsOthers(s, option(s, o))
                        && (best == NONE || walk(s, option(s, o)).end < walk(s, option(s, best)).end)) {
                    best = o;
                }
            }
            if (best != NONE && (walk(s, option(s, best)).end < own(s).end || ways.get(s).isEmpty()
                    || !fitsOthers(s, ways.get(s)) || barred(s))) {
                ways.set(s, option(s, best));
                took++;
            }
        }
        if (took == 0) {
            past.clear();
            past.addAll(before);
        }
        return took;
    }

    private int lucky;

    int lots(int saint) {
        if (!isSaint(saint)) {
            return NONE;
        }
        lucky = 0;
        order(saint, new ArrayList<>(), new HashMap<>());
        return lucky;
    }

    private Integer first(int s, Map<Integer, Integer> ahead) {
        Integer best = null;
        for (int o = 0; o < options(s); o++) {
            boolean good = true;
            for (Map.Entry<Integer, Integer> other : ahead.entrySet()) {
                good &= other.getValue() == null
                        || fit(s, option(s, o), other.getKey(), option(other.getKey(), other.getValue()));
            }
            if (good && (best == null || walk(s, option(s, o)).end < walk(s, option(s, best)).end)) {
                best = o;
            }
        }
        return best;
    }

    private void order(int saint, List<Integer> drawn, Map<Integer, Integer> got) {
        if (drawn.size() == saints()) {
            Integer mine = got.get(saint);
            Integer alone = first(saint, new HashMap<>());
            if (mine != null && walk(saint, option(saint, mine)).end == walk(saint, option(saint, alone)).end) {
                lucky++;
            }
            return;
        }
        for (int s = 0; s < saints(); s++) {
            if (!drawn.contains(s)) {
                drawn.add(s);
                got.put(s, first(s, got));
                order(saint, drawn, got);
                got.remove(s);
                drawn.remove(drawn.size() - 1);
            }
        }
    }

    private int nights;
    private int alwaysLanes;
    private int everOut;

    int dawn(int lanes, int minute, int what) {
        if (lanes < 0 || lanes >= 1 << town.lanes.size() || minute < 0 || minute > 999 || what < 0 || what > 2
                || saints() > 3) {
            return NONE;
        }
        nights = 0;
        alwaysLanes = 0xffff;
        everOut = 0;
        nightly(0, 0, 0, 0, lanes, minute);
        if (what == 0) {
            return nights;
        }
        if (nights == 0) {
            return 0;
        }
        return what == 1 ? alwaysLanes : (1 << saints()) - 1 & ~everOut;
    }

    /** The lanes of petals at a minute by options drawn by chance. */
    int strewn(int minute, Random random) {
        int lanes = 0;
        for (int s = 0; s < saints() && s < 3; s++) {
            if (options(s) > 0 && random.nextInt(4) > 0) {
                Walk walk = walk(s, option(s, random.nextInt(options(s))));
                for (int lane = 0; lane < town.lanes.size(); lane++) {
                    lanes |= walk.petals[lane][minute] ? 1 << lane : 0;
                }
            }
        }
        return lanes;
    }

    private void nightly(int s, int petals, int gone, int out, int lanes, int minute) {
        if (s == saints()) {
            if (petals == lanes) {
                nights++;
                alwaysLanes &= gone;
                everOut |= out;
            }
            return;
        }
        nightly(s + 1, petals, gone, out, lanes, minute);
        for (int o = 0; o < options(s); o++) {
            Walk walk = walk(s, option(s, o));
            int strewn = petals;
            int by = gone;
            for (int lane = 0; lane < town.lanes.size(); lane++) {
                strewn |= walk.petals[lane][minute] ? 1 << lane : 0;
                by |= walk.lanes.contains(lane) ? 1 << lane : 0;
            }
            nightly(s + 1, strewn, by, out | 1 << s, lanes, minute);
        }
    }

    int image() {
        List<Integer> bytes = new ArrayList<>();
        for (List<Integer> way : ways) {
            bytes.add(way.size());
            bytes.addAll(way);
        }
        bytes.add(shut / 256);
        bytes.add(shut % 256);
        bytes.add(on);
        bytes.add(sum(bytes));
        picture = bytes.stream().mapToInt(Integer::intValue).toArray();
        return picture.length;
    }

    static int sum(List<Integer> bytes) {
        int c = 83;
        for (int b : bytes) {
            c = (3 * c + b) % 247;
        }
        return c;
    }

    int octet(int k) {
        return k < 0 || k >= picture.length ? NONE : picture[k];
    }

    boolean back() {
        List<Integer> bytes = new ArrayList<>();
        for (int i = 0; i < tape.length(); i++) {
            bytes.add((int) tape.charAt(i));
        }
        tape.setLength(0);
        List<List<Integer>> told = new ArrayList<>();
        int i = 0;
        for (int s = 0; s < saints(); s++) {
            if (i >= bytes.size()) {
                return false;
            }
            int n = bytes.get(i++);
            if (n > 24 || i + n > bytes.size()) {
                return false;
            }
            List<Integer> steps = new ArrayList<>(bytes.subList(i, i + n));
            i += n;
            int here = town.saints.get(s)[0];
            int time = 0;
            for (int step : steps) {
                if (step >= 101 && step <= 130) {
                    time += step - 100;
                } else if (step < town.corners.size() && town.laneBetween(here, step) != NONE) {
                    time += town.lanes.get(town.laneBetween(here, step))[2] * town.saints.get(s)[1];
                    here = step;
                } else {
                    return false;
                }
            }
            if (time > 999) {
                return false;
            }
            told.add(steps);
        }
        if (bytes.size() != i + 4) {
            return false;
        }
        int lanes = bytes.get(i) * 256 + bytes.get(i + 1);
        if (lanes >= 1 << town.lanes.size() || bytes.get(i + 2) >= 1 << town.exceptions.size()
                || bytes.get(i + 3) != sum(bytes.subList(0, i + 3))) {
            return false;
        }
        ways = told;
        shut = lanes;
        on = bytes.get(i + 2);
        past.clear();
        forget();
        return true;
    }
}
