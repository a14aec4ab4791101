import java.util.ArrayList;
import java.util.List;
import java.util.Random;

/** Runs of calls by chance (the same each time) on NineSaints and on the oracle: like answers are due. */
public final class OracleTest {
    private final NineSaints x = new NineSaints();
    private final Oracle y = new Oracle();
    private final Random random;
    private final Towns towns;
    private final List<String> log = new ArrayList<>();
    private boolean wrong;
    private int calls;

    private OracleTest(long seed) {
        random = new Random(seed);
        towns = new Towns(random);
    }

    private int below(int n) {
        return random.nextInt(n);
    }

    private void same(String call, int got, int want) {
        calls++;
        log.add(call + " = " + got);
        if (got != want) {
            wrong = true;
            log.add("   due is " + want);
        }
    }

    private void same(String call, boolean got, boolean want) {
        same(call, got ? 1 : 0, want ? 1 : 0);
    }

    private void type(String text) {
        StringBuilder padded = new StringBuilder(text);
        while (padded.length() % 20 != 0) {
            padded.append(' ');
        }
        for (int i = 0; i < padded.length(); i += 20) {
            int[] n = new int[5];
            for (int k = 0; k < 20; k++) {
                n[k / 4] = n[k / 4] << 8 | padded.charAt(i + k);
            }
            same("feed", x.feed(n[0], n[1], n[2], n[3], n[4]), y.feed(n[0], n[1], n[2], n[3], n[4]));
        }
        same("end " + text.length(), x.end(text.length()), y.end(text.length()));
    }

    private String fitting(int saints) {
        for (;;) {
            String text = towns.join(towns.statements(saints));
            if (text.length() <= 1600) {
                return text;
            }
        }
    }

    private void tell(String text) {
        x.end(0);
        y.end(0);
        log.add("text: " + text);
        type(text.length() > 1600 ? text.substring(0, 1600) : text);
        same("city()", x.city(), y.city());
        same("fault(0)", x.fault(0), y.fault(0));
        same("fault(1)", x.fault(1), y.fault(1));
    }

    /** Mostly something that is there, now and then something that is not. */
    private int which(int what) {
        int n = y.has(what);
        return below(12) == 0 ? below(20) - 3 : n == 0 ? 0 : below(n);
    }

    private int minute() {
        return below(15) == 0 ? below(1200) - 100 : below(4) == 0 ? below(1000) : below(60);
    }

    private void lookAround() {
        for (int what = -1; what <= 10; what++) {
            same("has " + what, x.has(what), y.has(what));
        }
        for (int k = -1; k <= 6; k++) {
            int kind = below(3);
            int which = which(kind == 0 ? 0 : 2);
            same("letter " + kind + " " + which + " " + k, x.letter(kind, which, k), y.letter(kind, which, k));
        }
        for (int i = 0; i < 4; i++) {
            int lane = which(1);
            int what = below(7) - 1;
            same("lane " + lane + " " + what, x.lane(lane, what), y.lane(lane, what));
            int a = which(0);
            int b = which(0);
            same("sound " + a + " " + b, x.sound(a, b), y.sound(a, b));
        }
        int e = which(4);
        same("words " + e, x.words(e), y.words(e));
    }

    private void lookAtWays() {
        int s = which(2);
        int what = below(9) - 1;
        int m = minute();
        same("saint " + s + " " + what, x.saint(s, what), y.saint(s, what));
        same("where " + s + " " + m, x.where(s, m), y.where(s, m));
        same("on " + s + " " + m, x.on(s, m), y.on(s, m));
        int lane = which(1);
        same("petals " + lane + " " + m, x.petals(lane, m), y.petals(lane, m));
        int parish = below(12) - 1;
        same("passes " + s + " " + parish, x.passes(s, parish), y.passes(s, parish));
    }

    private void lookAtNight() {
        for (int k = -1; k <= 4; k++) {
            same("clash " + k, x.clash(k), y.clash(k));
        }
        for (int k = -1; k <= 2; k++) {
            same("clashes " + k, x.clashes(k), y.clashes(k));
            same("softer " + k, x.softer(k), y.softer(k));
            same("sweep " + k, x.sweep(k), y.sweep(k));
        }
        int s = which(2);
        int t = which(2);
        same("meet " + s + " " + t, x.meet(s, t), y.meet(s, t));
        same("pleased", x.pleased(), y.pleased());
    }

    private void plan() {
        int s = which(2);
        int r = below(5) == 0 ? below(25) - 2 : below(3);
        int k = below(8) - 1;
        same("routes " + s, x.routes(s), y.routes(s));
        same("route " + s + " " + r + " " + k, x.route(s, r, k), y.route(s, r, k));
        switch (below(8)) {
            case 0:
            case 1:
                for (int i = -2; i <= 4; i++) {
                    same("together " + i, x.together(i), y.together(i));
                }
                break;
            case 2:
                same("bars", x.bars(), y.bars());
                break;
            case 3:
                same("take", x.take(), y.take());
                break;
            case 4:
                same("mend", x.mend(), y.mend());
                break;
            case 5:
            case 6:
                same("turn", x.turn(), y.turn());
                break;
            default:
                for (int i = -1; i <= 4; i++) {
                    same("lots " + i, x.lots(i), y.lots(i));
                }
        }
    }

    private void atDawn() {
        int m = minute();
        int lanes = 0;
        if (below(4) == 0) {
            for (int i = below(4); i > 0; i--) {
                lanes |= 1 << Math.max(0, Math.min(20, which(1)));
            }
        } else {
            lanes = y.strewn(Math.max(0, Math.min(999, m)), random);
        }
        for (int what = -1; what <= 3; what++) {
            same("dawn " + lanes + " " + m + " " + what, x.dawn(lanes, m, what), y.dawn(lanes, m, what));
        }
    }

    private void images() {
        same("image", x.image(), y.image());
        StringBuilder bytes = new StringBuilder();
        for (int k = -1; k < 110; k += 1) {
            int octet = y.octet(k);
            if (x.octet(k) != octet) {
                same("octet " + k, x.octet(k), octet);
            }
            if (octet >= 0) {
                bytes.append((char) octet);
            }
        }
        if (below(2) == 0) {
            return;
        }
        if (below(2) == 0 && bytes.length() > 1) {
            List<Integer> told = new ArrayList<>();
            int spoilt = below(bytes.length() - 1);
            bytes.setCharAt(spoilt, (char) (below(3) == 0 ? below(256) : bytes.charAt(spoilt) ^ 1 << below(5)));
            for (int i = 0; i + 1 < bytes.length(); i++) {
                told.add((int) bytes.charAt(i));
            }
            if (below(5) != 0) {
                bytes.setCharAt(bytes.length() - 1, (char) Oracle.sum(told));
            }
        }
        if (below(8) == 0) {
            bytes.append((char) below(2));
        }
        x.end(0);
        y.end(0);
        type(bytes.toString());
        same("back", x.back(), y.back());
    }

    private void act() {
        int s = which(2);
        switch (below(12)) {
            case 0:
            case 1:
            case 2:
            case 3: {
                int c = which(0);
                same("go " + s + " " + c, x.go(s, c), y.go(s, c));
                break;
            }
            case 4: {
                int m = below(6) == 0 ? below(40) - 4 : 1 + below(6);
                same("rest " + s + " " + m, x.rest(s, m), y.rest(s, m));
                break;
            }
            case 5:
                if (below(3) == 0) {
                    same("clear " + s, x.clear(s), y.clear(s));
                }
                break;
            case 6:
                same("undo", x.undo(), y.undo());
                break;
            case 7: {
                int bits = below(8) == 0 ? below(80) - 5 : below(1 << Math.max(0, y.has(4)));
                same("but " + bits, x.but(bits), y.but(bits));
                break;
            }
            case 8: {
                int lane = which(1);
                boolean is = below(3) != 0;
                same("shut " + lane + " " + is, x.shut(lane, is), y.shut(lane, is));
                break;
            }
            case 9:
                lookAtWays();
                break;
            default:
                for (int i = 0; i < 8; i++) {
                    wander(s);
                }
        }
    }

    /** A step along a lane, so that ways get long enough to meet. */
    private void wander(int s) {
        int here = y.saint(s, 6);
        for (int tries = 0; tries < 6; tries++) {
            int lane = which(1);
            int a = y.lane(lane, 0);
            int b = y.lane(lane, 1);
            if (here >= 0 && (a == here || b == here)) {
                int c = a == here ? b : a;
                same("go " + s + " " + c, x.go(s, c), y.go(s, c));
                return;
            }
        }
    }

    /** Ends with the first wrong answer, and tells all calls up to it. */
    private boolean run(int rounds) {
        for (int i = below(3); i > 0; i--) {
            tell(towns.spoil(fitting(below(5))));
        }
        tell(fitting(below(8) == 0 ? below(2) : 2 + below(3)));
        lookAround();
        for (int round = 0; round < rounds && !wrong && calls < 500; round++) {
            int kind = below(20);
            if (kind < 11) {
                act();
            } else if (kind < 13) {
                lookAtNight();
            } else if (kind < 16) {
                plan();
            } else if (kind == 16) {
                atDawn();
            } else if (kind == 17) {
                images();
            } else if (kind == 18) {
                lookAround();
            } else if (below(12) == 0) {
                tell(below(2) == 0 ? towns.spoil(fitting(3)) : fitting(below(5)));
            } else {
                lookAtWays();
            }
        }
        if (wrong) {
            for (String line : log) {
                System.out.println(line);
            }
        }
        return !wrong;
    }

    /** Acts and plans in turns, so that nothing found for ways of before is taken for those of now. */
    private static boolean planning(long seed) {
        OracleTest test = new OracleTest(seed);
        String text = "";
        do {
            text = test.towns.join(test.towns.narrow(2 + test.below(3)));
        } while (text.length() > 1600);
        test.tell(text);
        for (int round = 0; round < 120 && !test.wrong && test.calls < 500; round++) {
            switch (test.below(7)) {
                case 0:
                case 1:
                    test.act();
                    break;
                case 2:
                    test.wander(test.which(2));
                    break;
                case 3:
                    test.lookAtWays();
                    test.same("clash(0)", test.x.clash(0), test.y.clash(0));
                    break;
                default:
                    test.plan();
            }
        }
        test.same("image", test.x.image(), test.y.image());
        for (int k = 0; k < 104; k++) {
            test.same("octet " + k, test.x.octet(k), test.y.octet(k));
        }
        if (test.wrong) {
            test.log.forEach(System.out::println);
        }
        return !test.wrong;
    }

    /** Long nights with exceptions that hold in some minutes: what is softened early and late. */
    private static boolean longNight(long seed) {
        OracleTest test = new OracleTest(seed);
        String text = "";
        do {
            text = test.towns.join(test.towns.narrow(2 + test.below(3)));
        } while (text.length() > 1600);
        test.tell(text);
        for (int round = 0; round < 60 && !test.wrong && test.calls < 480; round++) {
            int s = test.which(2);
            switch (test.below(6)) {
                case 0: {
                    int m = 1 + test.below(30);
                    test.same("rest " + s + " " + m, test.x.rest(s, m), test.y.rest(s, m));
                    break;
                }
                case 1:
                case 2:
                    test.wander(s);
                    break;
                case 3: {
                    int bits = test.below(1 << test.y.has(4));
                    test.same("but " + bits, test.x.but(bits), test.y.but(bits));
                    break;
                }
                case 4:
                    test.lookAtNight();
                    break;
                default:
                    test.act();
            }
        }
        if (test.wrong) {
            test.log.forEach(System.out::println);
        }
        return !test.wrong;
    }

    private static boolean faults(long seed) {
        OracleTest test = new OracleTest(seed);
        for (int i = 0; i < 40 && !test.wrong; i++) {
            boolean crowd = test.below(3) == 0;
            String text = crowd ? test.towns.crowd() : test.fitting(test.below(5));
            for (int n = crowd ? test.below(2) : test.below(3) + 1; n > 0; n--) {
                text = test.towns.spoil(text);
            }
            test.log.clear();
            test.tell(text);
        }
        if (test.wrong) {
            test.log.forEach(System.out::println);
        }
        return !test.wrong;
    }

    public static void main(String[] args) {
        long first = args.length > 0 ? Long.parseLong(args[0]) : 1;
        long count = args.length > 1 ? Long.parseLong(args[1]) : 120;
        int bad = 0;
        for (long seed = first; seed < first + count && bad < 3; seed++) {
            boolean good = new OracleTest(seed).run(80) && faults(seed);
            for (int i = 0; i < 10 && good; i++) {
                good = planning(10 * seed + i) && (i > 3 || longNight(10 * seed + i));
            }
            if (!good) {
                System.out.println("seed " + seed + " went wrong");
                bad++;
            }
        }
        System.exit(bad == 0 ? 0 : 1);
    }
}
