import java.util.Arrays;

/** The edges that the document names of plans for all at once, of dawn and of images: promises 28 to 39. */
final class PlanEdges {
    private static final int NONE = NineSaints.NONE;
    private static final int MAX = Integer.MAX_VALUE;
    private static final int MIN = Integer.MIN_VALUE;
    /** From a, b and c alike by m (minute 1) to n (minute 2): lanes 0, 1, 2 to m, lane 3 to n. */
    private static final String MERGE = "corner a parish 1; corner b parish 1; corner c parish 1; corner m parish 2; corner n parish 3;"
            + "lane a m long 1 walls 9; lane b m long 1 walls 9; lane c m long 1 walls 9; lane m n long 1 walls 9;";
    private static final int M = 3;
    private static final int N = 4;

    private PlanEdges() {
    }

    static void run() {
        routes();
        firstTwentyRoutes();
        routeCalls();
        options();
        together();
        ties();
        fourSaints();
        lastOption();
        togetherCall();
        bars();
        takeCall();
        mended();
        mendedTies();
        mendCall();
        byTurns();
        whenATurnIsTaken();
        turnCall();
        lots();
        dawn();
        dawnCall();
        image();
        imageCalls();
        imagesTaken();
        imagesThatAreNone();
        stepsThatCanBe();
        backCall();
        calls();
    }

    private static String saint(char name, char at, int petals) {
        return "saint " + name + name + " at " + at + " pace 1 loud 0 petals " + petals + ";";
    }

    private static Desk merge(Sentence s, int petals, int others) {
        return s.city(MERGE + saint('s', 'a', petals) + saint('t', 'b', others) + "but all; but minute = 1;");
    }

    private static void row(Desk d, int route, String corners) {
        for (int k = 0; k < corners.length(); k++) {
            d.due("route 0 " + route + " " + k, d.x.route(0, route, k), corners.charAt(k) - 'a');
        }
        d.due("route 0 " + route + " " + corners.length(), d.x.route(0, route, corners.length()), NONE);
    }

    private static void routes() {
        Sentence s = new Sentence(28, "ROUTES of a SAINT: rows of CORNERS from its own on, by LANES not SHUT, none twice, with one CORNER of "
                + "each PARISH that there is, just one; in the order of their CORNERS by numbers;");
        Desk d = s.city("corner a parish 7; corner b parish 7; lane a b long 1 walls 1;" + saint('s', 'b', 0));
        d.due("one parish", d.x.routes(0), 1);
        row(d, 0, "b");
        d = s.city("corner a parish 1; corner b parish 2;" + saint('s', 'a', 0));
        d.due("no lanes", d.x.routes(0), 0);
        d = s.city("corner a parish 1; corner b parish 1; corner c parish 2; lane a b long 1 walls 1; lane b c long 1 walls 1;"
                + saint('s', 'a', 0));
        d.due("just one of a parish", d.x.routes(0), 0);
        d = s.city("corner a parish 1; corner b parish 2; corner c parish 3; lane a b long 1 walls 1; lane a c long 1 walls 1;"
                + saint('s', 'a', 0));
        d.due("none twice", d.x.routes(0), 0);
        d = s.city("corner a parish 3; corner b parish 2; corner c parish 1; corner d parish 2; lane c d long 1 walls 1;"
                + "lane d a long 1 walls 1; lane b c long 1 walls 1; lane a c long 1 walls 1; lane a b long 1 walls 1;" + saint('s', 'a', 0));
        d.due("four", d.x.routes(0), 4);
        row(d, 0, "abc");
        row(d, 1, "acb");
        row(d, 2, "acd");
        row(d, 3, "adc");
        d.x.shut(3, true);
        d.due("a shut lane", d.x.routes(0), 2);
        row(d, 0, "abc");
        row(d, 1, "adc");
        d.x.shut(4, true);
        d.x.shut(0, true);
        d.due("all shut off", d.x.routes(0), 0);
        d.x.shut(3, false);
        d.due("open again", d.x.routes(0), 1);
        row(d, 0, "acb");
        StringBuilder nine = new StringBuilder(parishes(9));
        for (char c = 'a'; c < 'i'; c++) {
            nine.append("lane ").append(c).append(' ').append((char) (c + 1)).append(" long 1 walls 1;");
        }
        d = s.city(nine + saint('s', 'a', 0) + saint('t', 'b', 0));
        d.due("nine parishes", d.x.routes(0), 1);
        row(d, 0, "abcdefghi");
        d.due("not from the second on", d.x.routes(1), 0);
    }

    /** From a by ba or bb and ca or cb to da .. de. */
    private static String twenty() {
        StringBuilder text = new StringBuilder("corner a parish 1;" + TextEdges.many(2, "corner b# parish 2;")
                + TextEdges.many(2, "corner c# parish 3;") + TextEdges.many(5, "corner d# parish 4;")
                + TextEdges.many(2, "lane a b# long 1 walls 1;"));
        for (char c = 'a'; c <= 'b'; c++) {
            text.append(TextEdges.many(2, "lane b" + c + " c# long 1 walls 1;"));
            text.append(TextEdges.many(5, "lane c" + c + " d# long 1 walls 1;"));
        }
        return text.toString();
    }

    private static void firstTwentyRoutes() {
        Sentence s = new Sentence(28, "the first 20.");
        Desk d = s.city(twenty() + saint('s', 'a', 0));
        d.due("20", d.x.routes(0), 20);
        row(d, 0, "abdf");
        row(d, 19, "acej");
        d.due("no more", d.x.route(0, 20, 0), NONE);
        d = s.city(complete() + saint('s', 'a', 0));
        d.due("20 of 120", d.x.routes(0), 20);
        row(d, 0, "abcdef");
        row(d, 19, "abfced");
        d.due("no more", d.x.route(0, 20, 0), NONE);
    }

    /** Corners, each a parish of its own. */
    private static String parishes(int count) {
        StringBuilder text = new StringBuilder();
        for (char c = 'a'; c < 'a' + count; c++) {
            text.append("corner ").append(c).append(" parish ").append(c - 'a' + 1).append(";");
        }
        return text.toString();
    }

    /** Six corners, each a parish of its own, with lanes between all of them. */
    private static String complete() {
        StringBuilder text = new StringBuilder(parishes(6));
        for (char c = 'a'; c <= 'f'; c++) {
            for (char to = (char) (c + 1); to <= 'f'; to++) {
                text.append("lane ").append(c).append(' ').append(to).append(" long 1 walls 1;");
            }
        }
        return text.toString();
    }

    private static void routeCalls() {
        Sentence s = new Sentence(28, "How many ROUTES a SAINT has (20 at most); NONE when there is none such.");
        Desk d = s.city(complete() + saint('s', 'a', 0) + saint('t', 'f', 0));
        d.due("20 at most", d.x.routes(0), 20);
        d.due("20 at most", d.x.routes(1), 20);
        int[] none = {2, -1, 4, MAX, MIN};
        for (int saint : none) {
            d.due("routes " + saint, d.x.routes(saint), NONE);
        }
        s.desk().due("in no city", s.desk().x.routes(0), NONE);
        s = new Sentence(29, "The k-th CORNER of a ROUTE; NONE when there is none such.");
        d = s.city(MERGE + saint('s', 'a', 0) + saint('t', 'b', 0));
        d.due("its own", d.x.route(1, 0, 0), 1);
        d.due("the last", d.x.route(1, 0, 2), N);
        int[][] nothing = {{1, 0, 3}, {1, 0, -1}, {1, 1, 0}, {1, -1, 0}, {2, 0, 0}, {-1, 0, 0}, {4, 0, 0}, {1, 20, 0}, {MAX, 0, 0},
            {1, MAX, 0}, {1, 0, MAX}, {MIN, 0, 0}, {1, MIN, 0}, {1, 0, MIN}};
        for (int[] n : nothing) {
            d.due("route " + n[0] + " " + n[1] + " " + n[2], d.x.route(n[0], n[1], n[2]), NONE);
        }
        d.x.shut(3, true);
        d.due("no route any more", d.x.route(1, 0, 0), NONE);
    }

    private static void octets(Desk d, int... due) {
        d.due("image", d.x.image(), due.length);
        for (int k = 0; k < due.length; k++) {
            d.due("octet " + k, d.x.octet(k), due[k]);
        }
    }

    private static void options() {
        Sentence s = new Sentence(32, "OPTIONS: 3 times a ROUTE's number and d (0 .. 2): the ROUTE, a REST of 5 d minutes ahead of it (none "
                + "for 0).");
        Desk d = merge(s, 6, 6);
        d.due("s at once", d.x.together(0), 0);
        d.due("t with 10 minutes", d.x.together(1), 2);
        d.due("2 and 12", d.x.take(), 14);
        octets(d, 2, M, N, 3, 110, M, N, 0, 0, 0, 87);
        d = merge(s, 0, 0);
        d.due("t with 5 minutes", d.x.together(1), 1);
        d.due("2 and 7", d.x.take(), 9);
        d.due("no rest ahead of s", d.x.saint(0, 4), 2);
        d.due("a rest ahead of t", d.x.saint(1, 4), 3);
        d.due("it ends in 5", d.x.on(1, 5), NONE);
        d.due("it ends in 5", d.x.on(1, 6), 1);
        d = s.city("corner a parish 1; corner b parish 2; corner c parish 2; lane a b long 2 walls 1; lane a c long 1 walls 1;"
                + saint('s', 'a', 0));
        d.due("of the second route", d.x.together(0), 3);
        d = s.city(complete() + saint('s', 'a', 0));
        d.due("all as long", d.x.together(0), 0);
        d = s.city("corner a parish 1;" + saint('s', 'a', 0));
        d.due("none of no steps", d.x.take(), 0);
        d.due("none of no steps", d.x.saint(0, 4), 0);
    }

    private static void togetherIs(Desk d, int ends, int... options) {
        d.due("together(NONE)", d.x.together(NONE), ends);
        for (int saint = 0; saint < options.length; saint++) {
            d.due("together " + saint, d.x.together(saint), options[saint]);
        }
    }

    private static void together() {
        Sentence s = new Sentence(30, "TOGETHER: an OPTION for each SAINT, so that it is LAWFUL by what is ON; the least ENDS together;");
        Desk d = merge(s, 0, 0);
        togetherIs(d, 9, 0, 1);
        d.x.but(1);
        togetherIs(d, 4, 0, 0);
        d.x.but(2);
        togetherIs(d, 9, 0, 1);
        d.x.undo();
        d.x.undo();
        d.x.rest(0, 7);
        d.x.go(1, M);
        togetherIs(d, 9, 0, 1);
        d = merge(s, 0, 0);
        d.due("routes", d.x.routes(0), 1);
        d.x.go(0, M);
        d.due("ways do not count", d.x.together(NONE), 9);
        way(d, 1, 3);
        d.due("s has a way already", d.x.mend(), 0);
        togetherIs(d, 9, 0, 1);
        // By the soonest of s both end in 6 together, by the soonest of t in 5.
        togetherIs(s.city("corner a parish 1; corner c parish 2; corner b parish 2; corner e parish 1; corner f parish 2;"
                + "lane a c long 2 walls 9; lane a b long 3 walls 9; lane e c long 2 walls 9; lane e f long 4 walls 9;"
                + saint('s', 'a', 0) + saint('t', 'e', 0)), 5, 3, 0);
        togetherIs(merge(s, 6, 0), 9, 1, 0);
        togetherIs(merge(s, 0, 6), 9, 0, 1);
        togetherIs(merge(s, 5, 5), 9, 0, 1);
        togetherIs(merge(s, 10, 10), 14, 0, 2);
        togetherIs(merge(s, 11, 11), NONE, NONE, NONE);
        togetherIs(merge(s, 11, 10), 14, 2, 0);
    }

    private static void ties() {
        Sentence s = new Sentence(30, "of like ones the first by the first SAINT's OPTION, and so on.");
        togetherIs(merge(s, 6, 6), 14, 0, 2);
        togetherIs(s.city(MERGE + saint('s', 'a', 0) + saint('t', 'b', 0) + saint('u', 'c', 0)), 21, 0, 1, 2);
        togetherIs(s.city(MERGE + saint('s', 'a', 0) + saint('t', 'b', 0) + saint('u', 'c', 6)), 21, 0, 1, 2);
        togetherIs(s.city(MERGE + saint('s', 'a', 0) + saint('t', 'b', 6) + saint('u', 'c', 0)), 21, 0, 2, 1);
        togetherIs(s.city(MERGE + saint('s', 'a', 6) + saint('t', 'b', 0) + saint('u', 'c', 0)), 21, 2, 0, 1);
        togetherIs(s.city("corner a parish 1; corner b parish 2; corner c parish 2; lane a c long 1 walls 1; lane a b long 1 walls 1;"
                + saint('s', 'a', 0)), 1, 0);
        String forks = "corner a parish 1; corner b parish 2; corner c parish 2; corner e parish 1; corner f parish 2; corner g parish 2;";
        // 7 and 2, 2 and 7, both 9 together: it is the first OPTION that counts, not who is home first.
        togetherIs(s.city(forks + "lane a b long 7 walls 9; lane a c long 2 walls 9; lane e c long 2 walls 9;" + saint('s', 'a', 0)
                + saint('t', 'e', 0)), 9, 0, 0);
        togetherIs(s.city(forks + "lane a b long 1 walls 9; lane e f long 3 walls 9; lane e g long 3 walls 9;" + saint('s', 'a', 0)
                + saint('t', 'e', 0)), 4, 0, 0);
        togetherIs(s.city(forks + "lane a b long 3 walls 9; lane a c long 3 walls 9; lane e f long 4 walls 9; lane e g long 3 walls 9;"
                + saint('s', 'a', 0) + saint('t', 'e', 0)), 6, 0, 3);
    }

    private static void fourSaints() {
        Sentence s = new Sentence(30, "TOGETHER: an OPTION for each SAINT");
        Desk d = s.city(MERGE + "corner x parish 1; corner y parish 2; corner z parish 3; lane x y long 1 walls 9; lane y z long 1 walls 9;"
                + saint('s', 'a', 0) + saint('t', 'b', 0) + saint('u', 'c', 0) + saint('v', 'x', 0));
        togetherIs(d, 23, 0, 1, 2, 0);
        d.due("bars", d.x.bars(), 0);
        d.due("mend", d.x.mend(), 0);
        d.due("all but v are in each other's way", d.x.lots(0), 8);
        d.due("v is in nobody's way", d.x.lots(3), 24);
        d.due("turn", d.x.turn(), 4);
        d.due("turn", d.x.turn(), 0);
        d.due("take", d.x.take(), 23);
        d.due("clash", d.x.clash(0), NONE);
        d.due("sweep", d.x.sweep(NONE), 0);
        d.due("softer", d.x.softer(0), 0);
        d.x.shut(5, true);
        d.due("v bars it", d.x.bars(), 8);
        d.due("v can't be mended", d.x.mend(), NONE);
        d.due("v has no turn", d.x.turn(), 0);
    }

    /** Twenty routes, of which the last is the soonest: by bb, cb and de. */
    private static void lastOption() {
        Sentence s = new Sentence(30, "OPTIONS: 3 times a ROUTE's number and d (0 .. 2)");
        String text = twenty().replace("long 1", "long 2").replace("lane a bb long 2", "lane a bb long 1")
                .replace("lane bb cb long 2", "lane bb cb long 1").replace("lane cb de long 2", "lane cb de long 1");
        Desk d = s.city(text + saint('s', 'a', 0));
        togetherIs(d, 3, 57);
        d = s.city(text + saint('s', 'a', 0) + saint('t', 'a', 0) + "but all;");
        d.x.but(1);
        togetherIs(d, 6, 57, 57);
        d.due("dawn", d.x.dawn(0, 0, 0), 61 * 61);
        d = s.city(text + saint('s', 'a', 0) + saint('t', 'a', 0) + saint('u', 'a', 0));
        d.due("dawn", d.x.dawn(0, 0, 0), 61 * 61 * 61);
        d.due("each clashes with each", d.x.bars(), 3);
        d = s.city(text + saint('s', 'a', 0) + saint('t', 'a', 0) + saint('u', 'a', 0) + saint('v', 'a', 0));
        d.due("each clashes with each", d.x.bars(), 7);
        d.due("the first alone", d.x.lots(3), 6);
        // 7 and 2, or 2 and 7: the fifth route, not the sixth.
        d = s.city("corner a parish 1;" + TextEdges.many(6, "corner b# parish 2;") + "corner e parish 1;"
                + TextEdges.many(4, "lane a b# long 9 walls 9;") + "lane a be long 7 walls 9; lane a bf long 2 walls 9; lane e bf long 2 walls 9;"
                + saint('s', 'a', 0) + saint('t', 'e', 0));
        togetherIs(d, 9, 12, 0);
    }

    private static void togetherCall() {
        Sentence s = new Sentence(30, "TOGETHER: the ENDS together (k NONE), the OPTION of SAINT k; NONE when there is none such.");
        Desk d = merge(s, 0, 0);
        togetherIs(d, 9, 0, 1, NONE, NONE);
        int[] none = {2, 4, -2, MAX, MIN};
        for (int k : none) {
            d.due("together " + k, d.x.together(k), NONE);
        }
        d.x.shut(3, true);
        togetherIs(d, NONE, NONE, NONE, NONE);
        togetherIs(s.city(MERGE), 0, NONE);
        togetherIs(s.desk(), 0, NONE);
    }

    private static void bars() {
        Sentence s = new Sentence(31, "BARS: if there is none such, the SAINTS (as bits) without which there is one for all others: the fewest, "
                + "of like ones the least bits.");
        Desk d = merge(s, 11, 11);
        d.due("either of two", d.x.bars(), 1);
        d = s.city(MERGE + "corner z parish 1;" + saint('s', 'a', 0) + saint('t', 'z', 0));
        d.due("one without routes", d.x.bars(), 2);
        d = s.city(MERGE + saint('s', 'a', 0) + saint('t', 'b', 0));
        d.x.shut(3, true);
        d.due("both without routes", d.x.bars(), 3);
        // One that is heard by all alone shuts it, not the two that hear it.
        String three = "corner a parish 1; corner b parish 2; corner c parish 1; corner d parish 2; corner e parish 1; corner f parish 2;"
                + "lane a b long 1 walls 1; lane c d long 1 walls 1; lane e f long 1 walls 1; lane a c long 1 walls 9; lane c e long 1 walls 9;";
        d = s.city(three + saint('s', 'a', 0) + saint('t', 'e', 0) + saint('u', 'c', 0).replace("loud 0", "loud 20"));
        d.due("the fewest", d.x.bars(), 4);
        d = s.city(three + saint('s', 'a', 0) + saint('t', 'c', 0).replace("loud 0", "loud 20") + saint('u', 'e', 0));
        d.due("the fewest", d.x.bars(), 2);
        String crowd = MERGE.replace("walls 9", "walls 0") + TextEdges.many(4, "saint s# at # pace 1 loud 0 petals 0;").replace("at d", "at a");
        d = s.city(crowd);
        d.due("all hear all: all but one", d.x.bars(), 7);
        s = new Sentence(31, "(Without SAINTS nothing is to be done.)");
        d = s.city(MERGE);
        d.due("together", d.x.together(NONE), 0);
        d.due("bars", d.x.bars(), 0);
        d.due("take", d.x.take(), NONE);
        d.due("mend", d.x.mend(), 0);
        d.due("turn", d.x.turn(), 0);
        d.due("clashes", d.x.clashes(0) + d.x.clashes(1), 0);
        d.due("softer", d.x.softer(0), 0);
        d.due("acts", d.x.has(9), 0);
        s = new Sentence(31, "BARS; 0 when there is a night TOGETHER.");
        d = merge(s, 0, 0);
        d.due("a night", d.x.bars(), 0);
        d.x.shut(0, true);
        d.due("no route of s", d.x.bars(), 1);
        d.x.shut(0, false);
        d.due("a night again", d.x.bars(), 0);
        d = merge(s, 11, 11);
        d.x.but(1);
        d.due("all excepted", d.x.bars(), 0);
        d.x.but(0);
        d.due("nothing excepted", d.x.bars(), 1);
    }

    private static void takeCall() {
        Sentence s = new Sentence(32, "All WAYS are by TOGETHER from now on: the ENDS together; NONE, doing nothing, when there is none such, "
                + "or without SAINTS.");
        Desk d = merge(s, 0, 0);
        d.x.rest(0, 30);
        d.x.rest(1, 30);
        d.due("take", d.x.take(), 9);
        d.due("END of s", d.x.saint(0, 5), 2);
        d.due("END of t", d.x.saint(1, 5), 7);
        d.due("lawful", d.x.clash(0), NONE);
        d.due("one act", d.x.has(9), 3);
        d.x.shut(0, true);
        d.due("none such", d.x.take(), NONE);
        d.due("nothing done", d.x.saint(1, 5), 7);
        d.due("no act", d.x.has(9), 4);
        d = s.city(MERGE);
        d.due("without saints", d.x.take(), NONE);
        d.due("no act", d.x.has(9), 0);
        d = s.desk();
        d.due("in no city", d.x.take(), NONE);
    }

    private static void way(Desk d, int saint, int wait) {
        if (wait > 0) {
            d.x.rest(saint, wait);
        }
        d.x.go(saint, M);
        d.x.go(saint, N);
    }

    private static void mendedIs(Desk d, int changed, int end, int other) {
        d.due("mend", d.x.mend(), changed);
        d.due("END of s", d.x.saint(0, 5), end);
        d.due("END of t", d.x.saint(1, 5), other);
    }

    private static void mended() {
        Sentence s = new Sentence(33, "MENDED: a night in which each SAINT has an OPTION, or stays with its WAY (if none of its LANES is SHUT), "
                + "LAWFUL;");
        Desk d = merge(s, 0, 0);
        way(d, 0, 30);
        way(d, 1, 20);
        mendedIs(d, 0, 32, 22);
        d = merge(s, 0, 0);
        way(d, 0, 3);
        d.x.shut(1, true);
        mendedIs(d, 0, 5, 0);
        d.x.shut(0, true);
        mendedIs(d, NONE, 5, 0);
        d = s.city("corner a parish 1; corner b parish 2; corner c parish 2; lane a b long 1 walls 1; lane a c long 9 walls 1;"
                + saint('s', 'a', 0) + saint('t', 'b', 0));
        d.x.go(0, 1);
        d.x.go(0, 0);
        d.x.shut(0, true);
        mendedIs(d, 1, 9, 0);
        d.due("by the other lane", d.x.saint(0, 6), 2);
        d = merge(s, 11, 11);
        way(d, 0, 0);
        way(d, 1, 0);
        mendedIs(d, NONE, 2, 2);
        d.x.but(1);
        mendedIs(d, 0, 2, 2);
        d = merge(s, 11, 11);
        way(d, 0, 0);
        way(d, 1, 0);
        mendedIs(d, NONE, 2, 2);
        d.x.clear(1);
        mendedIs(d, 0, 2, 0);
        d = merge(s, 0, 0);
        way(d, 0, 3);
        togetherIs(d, 9, 0, 1);
        mendedIs(d, 0, 5, 0);
        togetherIs(d, 9, 0, 1);
        d.due("take", d.x.take(), 9);
        mendedIs(d, 0, 2, 7);
    }

    private static void mendedTies() {
        Sentence s = new Sentence(33, "the fewest that have an OPTION, then the least ENDS together, then the first by SAINTS (staying ahead of "
                + "all OPTIONS).");
        Desk d = merge(s, 0, 0);
        way(d, 0, 30);
        way(d, 1, 30);
        // Both could be home by 2 and 7 with two options.
        mendedIs(d, 1, 32, 2);
        d = merge(s, 0, 0);
        way(d, 0, 0);
        way(d, 1, 0);
        mendedIs(d, 1, 2, 7);
        d = merge(s, 0, 0);
        way(d, 0, 0);
        d.x.rest(0, 8);
        way(d, 1, 0);
        // s stays out at n up to 10: t behind it would end in 12, s behind t ends in 7.
        mendedIs(d, 1, 7, 2);
        d = s.city("corner a parish 1; corner b parish 2; corner c parish 2; corner d parish 2; lane a b long 1 walls 1;"
                + "lane a c long 2 walls 1; lane a d long 2 walls 1;" + saint('s', 'a', 0) + saint('t', 'b', 0));
        d.x.go(0, 1);
        d.x.shut(0, true);
        mendedIs(d, 1, 2, 0);
        d.due("the first of like options", d.x.saint(0, 6), 2);
    }

    private static void mendCall() {
        Sentence s = new Sentence(33, "The night is MENDED: how many SAINTS have an OPTION by it; NONE, doing nothing, when it can't be (0, when "
                + "all stay).");
        Desk d = merge(s, 0, 0);
        mendedIs(d, 0, 0, 0);
        d.due("no act", d.x.has(9), 0);
        way(d, 0, 0);
        way(d, 1, 0);
        d.due("acts", d.x.has(9), 4);
        mendedIs(d, 1, 2, 7);
        d.due("one act more", d.x.has(9), 5);
        mendedIs(d, 0, 2, 7);
        d.due("no act", d.x.has(9), 5);
        d.x.shut(3, true);
        mendedIs(d, NONE, 2, 7);
        d.due("the act of shut alone", d.x.has(9), 6);
        d = s.city(MERGE + "corner o parish 3; lane m o long 3 walls 9;" + saint('s', 'a', 0) + saint('t', 'b', 0));
        way(d, 0, 0);
        way(d, 1, 5);
        d.x.shut(3, true);
        // At m in 1 and in 6, at o in 4 and in 9.
        mendedIs(d, 2, 4, 9);
        d.due("without saints", s.desk().x.mend(), 0);
    }

    private static void turnIs(Desk d, int took, int end, int other) {
        d.due("turn", d.x.turn(), took);
        d.due("END of s", d.x.saint(0, 5), end);
        d.due("END of t", d.x.saint(1, 5), other);
    }

    private static void byTurns() {
        Sentence s = new Sentence(34, "BY TURNS: SAINT by SAINT takes of its OPTIONS with which no CLASH of it with the WAYS of others now is not "
                + "EXCEPTED the one with the least END, the first of like ones,");
        Desk d = merge(s, 0, 0);
        turnIs(d, 2, 2, 7);
        turnIs(d, 0, 2, 7);
        d = merge(s, 6, 0);
        turnIs(d, 2, 2, 12);
        d = merge(s, 11, 0);
        turnIs(d, 1, 2, 0);
        d = merge(s, 0, 0);
        d.x.but(1);
        turnIs(d, 2, 2, 2);
        d = merge(s, 0, 0);
        way(d, 1, 0);
        turnIs(d, 1, 7, 2);
        d = s.city("corner a parish 1; corner b parish 2; corner c parish 2; corner d parish 2; lane a b long 2 walls 9;"
                + "lane a c long 1 walls 9; lane a d long 1 walls 9;" + saint('s', 'a', 0) + saint('t', 'b', 0));
        d.due("turn", d.x.turn(), 2);
        d.due("the least END, the first of like ones", d.x.saint(0, 6), 2);
        d = merge(s, 0, 0);
        turnIs(d, 2, 2, 7);
        d.x.clear(0);
        d.x.clear(1);
        way(d, 1, 0);
        // At once fitted when t was not out; it does not with the way of t now.
        turnIs(d, 1, 7, 2);
        d = s.city("corner a parish 1; corner b parish 2; corner c parish 2; corner d parish 2; lane a b long 9 walls 9;"
                + "lane a c long 5 walls 9; lane a d long 1 walls 9;" + saint('s', 'a', 0) + saint('t', 'd', 0));
        d.x.rest(1, 30);
        d.x.rest(1, 1);
        // d is taken: by c at once, then, with c shut, by b; then there is none.
        d.due("turn", d.x.turn(), 2);
        d.due("by c", d.x.saint(0, 5), 5);
        d.x.undo();
        d.x.shut(1, true);
        d.due("turn", d.x.turn(), 2);
        d.due("by b", d.x.saint(0, 5), 9);
    }

    private static void whenATurnIsTaken() {
        Sentence s = new Sentence(34, "if that END is less than its own now, or its own is of no STEPS, or clashes so, or has a SHUT LANE.");
        Desk d = merge(s, 99, 0);
        way(d, 0, 1);
        turnIs(d, 1, 2, 0);
        turnIs(d, 0, 2, 0);
        d = merge(s, 99, 0);
        d.x.rest(0, 2);
        d.due("as much as its own", d.x.saint(0, 5), 2);
        d.due("s stays, t goes", d.x.turn(), 1);
        d.due("s has one step", d.x.saint(0, 4), 1);
        d = merge(s, 0, 0);
        d.x.go(0, M);
        d.x.go(1, M);
        // Both at m in minute 1: s takes, though it ends later by that, and t is free then.
        turnIs(d, 1, 7, 1);
        d = merge(s, 0, 0);
        d.x.go(0, M);
        d.x.go(1, M);
        d.x.but(1);
        turnIs(d, 0, 1, 1);
        d = s.city("corner a parish 1; corner b parish 2; corner c parish 2; lane a b long 1 walls 9; lane a c long 9 walls 9;"
                + saint('s', 'a', 0) + saint('t', 'b', 0));
        d.x.go(0, 1);
        d.x.shut(0, true);
        turnIs(d, 1, 9, 0);
        turnIs(d, 0, 9, 0);
        d.x.shut(1, true);
        turnIs(d, 0, 9, 0);
    }

    private static void turnCall() {
        Sentence s = new Sentence(34, "One round BY TURNS: how many SAINTS took an OPTION.");
        Desk d = s.city(MERGE + saint('s', 'a', 0) + saint('t', 'b', 0) + saint('u', 'c', 0));
        d.due("three", d.x.turn(), 3);
        d.due("one act", d.x.has(9), 1);
        d.due("none", d.x.turn(), 0);
        d.due("no act", d.x.has(9), 1);
        d.x.clear(0);
        // s gets 0 again, as nobody has taken it; the others stay.
        d.due("one", d.x.turn(), 1);
        d.x.clear(0);
        d.x.rest(0, 1);
        // s stays at a; t goes at once and u, which waits for t alone, five minutes behind.
        d.due("two", d.x.turn(), 2);
        d.due("END of s", d.x.saint(0, 5), 1);
        d.due("END of t", d.x.saint(1, 5), 2);
        d.due("END of u", d.x.saint(2, 5), 7);
        d = s.city(MERGE);
        d.due("without saints", d.x.turn(), 0);
        d.due("no act", d.x.has(9), 0);
        d = s.city(MERGE + "corner z parish 4;" + saint('s', 'a', 0));
        d.due("without options", d.x.turn(), 0);
    }

    private static void lots() {
        Sentence s = new Sentence(35, "LOTS: all orders of the SAINTS; in each one after the other takes, likewise, beside those ahead in this "
                + "order alone, the OPTION with the least END (none, if there is none): in how many orders a SAINT gets as little as it "
                + "would alone (it must get one).");
        Desk d = s.city(MERGE + saint('s', 'a', 0));
        d.due("one order", d.x.lots(0), 1);
        d = merge(s, 0, 0);
        d.due("s", d.x.lots(0), 1);
        d.due("t", d.x.lots(1), 1);
        way(d, 1, 0);
        d.due("ways do not count", d.x.lots(0), 1);
        d.x.but(1);
        d.due("all excepted", d.x.lots(0), 2);
        d = s.city(MERGE + saint('s', 'a', 0) + saint('t', 'b', 0) + saint('u', 'c', 0));
        for (int saint = 0; saint < 3; saint++) {
            d.due("first of three", d.x.lots(saint), 2);
        }
        d = s.city(MERGE + "corner z parish 1;" + saint('s', 'a', 0) + saint('t', 'z', 0) + saint('u', 'c', 0));
        d.due("t has none", d.x.lots(1), 0);
        d.due("s ahead of u", d.x.lots(0), 3);
        d.due("u ahead of s", d.x.lots(2), 3);
        d = s.city("corner a parish 1;" + TextEdges.many(4, "saint s# at a pace 1 loud 0 petals 0;"));
        d.due("all orders of four", d.x.lots(3), 24);
        // Behind t, which goes by b, s goes by d and ends as soon; behind s, which goes by b, t is late.
        d = s.city("corner a parish 1; corner b parish 2; corner d parish 2; corner e parish 1; corner g parish 3; corner c parish 3;"
                + "lane a b long 1 walls 9; lane b c long 1 walls 9; lane a d long 1 walls 9; lane d c long 1 walls 9;"
                + "lane e b long 1 walls 9; lane b g long 1 walls 9;" + saint('s', 'a', 0) + saint('t', 'e', 0));
        d.due("as little by another option", d.x.lots(0), 2);
        d.due("first alone", d.x.lots(1), 1);
        // Behind s t gets its last option, and u would meet it at m in 11; behind t s leaves petals where u would go.
        d = s.city(MERGE.replace("lane c m long 1", "lane c m long 9").replace("lane m n long 1", "lane m n long 3") + saint('s', 'a', 4)
                + saint('t', 'b', 0) + saint('u', 'c', 0));
        d.due("u is not behind both", d.x.lots(2), 4);
        d = merge(s, 0, 99);
        d.due("s", d.x.lots(0), 1);
        d.x.shut(1, true);
        d.due("t has none any more", d.x.lots(0), 2);
        d.due("t has none any more", d.x.lots(1), 0);
        d = s.city(MERGE.replace("lane b m long 1", "lane b m long 9").replace("lane m n long 1", "lane m n long 9") + saint('s', 'a', 0)
                + saint('t', 'b', 0));
        d.due("both at m in 9", d.x.lots(0), 1);
        d.x.shut(1, true);
        d.due("t has none any more", d.x.lots(0), 2);
        s = new Sentence(35, "LOTS: in how many orders a SAINT gets as little as alone; NONE when there is none such.");
        d = merge(s, 0, 0);
        int[] none = {2, -1, 4, MAX, MIN};
        for (int saint : none) {
            d.due("lots " + saint, d.x.lots(saint), NONE);
        }
        d.due("in no city", s.desk().x.lots(0), NONE);
        d.x.shut(3, true);
        d.due("without options", d.x.lots(0), 0);
        d.due("no act", d.x.has(9), 1);
    }

    private static void dawnIs(Desk d, int lanes, int minute, int... due) {
        for (int what = 0; what < 3; what++) {
            d.due("dawn " + lanes + " " + minute + " " + what, d.x.dawn(lanes, minute, what), due[what]);
        }
    }

    private static void dawn() {
        Sentence s = new Sentence(36, "DAWN: nights in which each SAINT has an OPTION or was never out: by which at a told minute PETALS lie on "
                + "just told LANES (clashes do not count; 3 SAINTS at most).");
        Desk d = merge(s, 99, 99);
        dawnIs(d, 0, 20, 1, 0, 3);
        dawnIs(d, 9, 20, 3, 9, 2);
        dawnIs(d, 10, 20, 3, 10, 1);
        dawnIs(d, 11, 20, 9, 11, 0);
        dawnIs(d, 8, 20, 0, 0, 0);
        dawnIs(d, 0, 0, 16, 0, 0);
        dawnIs(d, 1, 1, 3, 9, 0);
        dawnIs(d, 11, 99, 9, 11, 0);
        // At 100 those of 1 do not lie any more: by options at once they lie on lane 3 alone.
        dawnIs(d, 9, 100, 4, 9, 0);
        dawnIs(d, 8, 100, 3, 8, 0);
        d = s.city(MERGE + saint('s', 'a', 99) + saint('t', 'b', 99) + saint('u', 'c', 99));
        dawnIs(d, 15, 20, 27, 15, 0);
        dawnIs(d, 12, 20, 3, 12, 3);
        dawnIs(d, 13, 20, 9, 13, 2);
        dawnIs(d, 9, 20, 3, 9, 6);
        dawnIs(d, 0, 20, 1, 0, 7);
        dawnIs(d, 12, 0, 0, 0, 0);
        dawnIs(d, 9, 0, 0, 0, 0);
        d = s.city(MERGE + saint('s', 'a', 99) + saint('t', 'b', 99) + saint('u', 'c', 0));
        dawnIs(d, 11, 20, 36, 11, 0);
        dawnIs(d, 9, 20, 12, 9, 2);
        d = s.city(MERGE + saint('s', 'a', 0) + saint('t', 'b', 0) + saint('u', 'c', 99));
        dawnIs(d, 12, 20, 48, 12, 0);
        // By b or by e: in 3 there are petals of the last lane alone.
        d = s.city("corner a parish 1; corner b parish 2; corner e parish 2; corner c parish 3; corner d parish 4; lane a b long 1 walls 1;"
                + "lane a e long 1 walls 1; lane b c long 1 walls 1; lane e c long 1 walls 1; lane c d long 1 walls 1;" + saint('s', 'a', 1));
        dawnIs(d, 16, 3, 2, 16, 0);
        dawnIs(d, 4, 2, 1, 21, 0);
        d = s.city("corner a parish 1;" + saint('s', 'a', 0) + saint('t', 'a', 0) + saint('u', 'a', 0));
        dawnIs(d, 0, 5, 64, 0, 0);
        d = s.city("corner a parish 1;" + TextEdges.many(4, "saint s# at a pace 1 loud 0 petals 0;"));
        dawnIs(d, 0, 5, NONE, NONE, NONE);
        dawnIs(s.city(MERGE), 0, 5, 1, 0, 0);
        dawnIs(s.city(MERGE), 1, 5, 0, 0, 0);
    }

    private static void dawnCall() {
        Sentence s = new Sentence(36, "DAWN, by LANES (bits) at a minute (0 .. 999): how many nights (what 0), LANES by which a SAINT goes in all of "
                + "them (1, bits; 0 without nights), SAINTS without an OPTION in all of them (2, bits; 0 without nights).");
        Desk d = merge(s, 1, 1);
        // In minute 2 it is s or t at once by whom petals lie on lane 3: it is gone by in all seven nights.
        dawnIs(d, 8, 2, 7, 8, 0);
        dawnIs(d, 8, 999, 0, 0, 0);
        dawnIs(d, 0, 999, 16, 0, 0);
        d.x.shut(0, true);
        dawnIs(d, 0, 999, 4, 0, 1);
        dawnIs(d, 8, 2, 1, 10, 1);
        dawnIs(d, 1, 2, 0, 0, 0);
        s = new Sentence(36, "NONE when something can't be, for more than 3 SAINTS, or for others.");
        d = merge(s, 1, 1);
        d.due("all lanes there are", d.x.dawn(15, 0, 0), 0);
        int[][] none = {{16, 0, 0}, {-1, 0, 0}, {65536, 0, 0}, {MAX, 0, 0}, {MIN, 0, 0}, {0, 1000, 0}, {0, -1, 0}, {0, MAX, 0}, {0, MIN, 0},
            {0, 0, 3}, {0, 0, -1}, {0, 0, MAX}, {0, 0, MIN}, {16, 0, 1}, {0, 1000, 2}};
        for (int[] n : none) {
            d.due("dawn " + n[0] + " " + n[1] + " " + n[2], d.x.dawn(n[0], n[1], n[2]), NONE);
        }
        String three = MERGE + saint('s', 'a', 0) + saint('t', 'b', 0) + saint('u', 'c', 0);
        s.desk().due("three saints", s.city(three).x.dawn(0, 0, 0), 64);
        s.desk().due("four saints", s.city(three + saint('v', 'a', 0)).x.dawn(0, 0, 0), NONE);
        s.desk().due("no lanes", s.desk().x.dawn(1, 0, 0), NONE);
    }

    private static void image() {
        Sentence s = new Sentence(37, "AN IMAGE: for each SAINT how many STEPS, then for each a byte: 0 and the CORNER to which, or 100 and the "
                + "minutes of a REST; SHUT LANES (two bytes, bits, the higher first); EXCEPTIONS that are ON; last a byte: all ahead from "
                + "83 on, c = (3 c + it) mod 247.");
        Desk d = s.desk();
        octets(d, 0, 0, 0, 18);
        d = merge(s, 0, 0);
        octets(d, 0, 0, 0, 0, 0, 162);
        d.x.go(0, M);
        d.x.rest(0, 1);
        d.x.go(0, 0);
        d.x.rest(1, 30);
        d.x.shut(3, true);
        d.x.but(2);
        octets(d, 3, M, 101, 0, 1, 130, 0, 8, 2, 28);
        d = s.city(TextEdges.sixteenLanes());
        d.x.shut(15, true);
        d.x.shut(8, true);
        octets(d, 129, 0, 0, 191);
        d.x.shut(8, false);
        d.x.shut(7, true);
        d.x.shut(0, true);
        octets(d, 128, 129, 0, 75);
    }

    private static void imageCalls() {
        Sentence s = new Sentence(37, "AN IMAGE is written: how many bytes.");
        Desk d = s.desk();
        d.due("in no city", d.x.image(), 4);
        d = s.city("corner a parish 1;" + TextEdges.many(4, "saint s# at a pace 1 loud 0 petals 0;"));
        d.due("no steps", d.x.image(), 8);
        for (int i = 0; i < 96; i++) {
            d.x.rest(i / 24, 30);
        }
        d.due("the longest", d.x.image(), 104);
        d.due("acts do not change by it", d.x.has(9), 20);
        s = new Sentence(38, "Byte k of the latest image(); NONE when there is none such.");
        d = merge(s, 0, 0);
        d.due("ahead of any", d.x.octet(0), NONE);
        d.x.image();
        d.x.rest(0, 1);
        int[] none = {6, 7, 104, -1, MAX, MIN};
        for (int k : none) {
            d.due("octet " + k, d.x.octet(k), NONE);
        }
        d.due("of the latest image", d.x.octet(0), 0);
        d.due("the last", d.x.octet(5), 162);
        d.x.image();
        d.due("of another one", d.x.octet(0), 1);
        d.due("one byte more", d.x.octet(6) != NONE, true);
        d.due("one byte more", d.x.octet(7), NONE);
        d.x.undo();
        d.due("still so", d.x.octet(0), 1);
        d.tell("rain 1;");
        d.due("another city is no image", d.x.octet(0), 1);
    }

    /** The tape gets bytes and, behind them, the sum that is due. */
    private static boolean backOf(Desk d, int... bytes) {
        int[] all = Arrays.copyOf(bytes, bytes.length + 1);
        int sum = 83;
        for (int octet : bytes) {
            sum = (3 * sum + octet) % 247;
        }
        all[bytes.length] = sum;
        d.x.end(0);
        d.tape(all);
        return d.x.back();
    }

    private static void imagesTaken() {
        Sentence s = new Sentence(39, "It is taken, if it is such");
        Desk d = merge(s, 0, 0);
        d.due("no steps", backOf(d, 0, 0, 0, 0, 0), true);
        d.due("a way of two, a rest of 1, lane 3, exception 1", backOf(d, 2, M, N, 1, 101, 0, 8, 2), true);
        octets(d, 2, M, N, 1, 101, 0, 8, 2, 168);
        d.due("all lanes, all exceptions", backOf(d, 0, 0, 0, 15, 3), true);
        d.due("shut", d.x.has(7), 4);
        d.due("on", d.x.has(8), 3);
        d = s.city("corner a parish 1;" + saint('s', 'a', 0));
        int[] rests = new int[28];
        Arrays.fill(rests, 1, 25, 130);
        rests[0] = 24;
        d.due("24 steps", backOf(d, rests), true);
        d.due("END", d.x.saint(0, 5), 720);
        d = s.desk();
        d.due("no saints", backOf(d, 0, 0, 0), true);
        d = s.city(TextEdges.sixteenLanes() + "saint ss at i pace 1 loud 0 petals 0; saint tt at h pace 1 loud 0 petals 0;");
        d.due("lanes 15, 8 and 0, a way from i, another one from h", backOf(d, 1, 0, 2, 9, 0, 129, 1, 0), true);
        int[] shut = {0, 8, 15};
        for (int lane : shut) {
            d.due("shut " + lane, d.x.lane(lane, 4), 1);
        }
        d.due("shut", d.x.has(7), 3);
        d.due("from i to a", d.x.where(0, 1), 0);
        d.due("from h to a", d.x.where(1, 2), 0);
        d.due("all lanes", backOf(d, 0, 0, 255, 255, 0), true);
        d.due("shut", d.x.has(7), 16);
        d.due("corner 10 of ten", backOf(d, 1, 10, 0, 0, 0, 0), false);
        d.due("corner 10 of ten", backOf(d, 2, 9, 10, 0, 0, 0, 0), false);
    }

    private static void imagesThatAreNone() {
        Sentence s = new Sentence(39, "It is taken, if it is such");
        Desk d = merge(s, 0, 0);
        backOf(d, 1, 105, 1, 106, 0, 0, 1);
        int[][] none = {{}, {0}, {0, 0, 0, 0}, {0, 0, 0, 0, 0, 0}, {3, M, N, 0, 0, 0}, {0, 0, 0, 16, 0}, {0, 0, 1, 0, 0}, {0, 0, 128, 0, 0},
            {0, 0, 0, 0, 4}, {0, 0, 0, 0, 255}, {255, 0, 0, 0, 0}, {9, 101, 101, 101, 101}, {0, 1, 101, 0, 0}, {1, 101, 0, 0, 0}};
        for (int[] bytes : none) {
            d.due("back of " + Arrays.toString(bytes), backOf(d, bytes), false);
        }
        int[] sums = {161, 163, 0, 255};
        for (int sum : sums) {
            d.tape(0, 0, 0, 0, 0, sum);
            d.due("back with the sum " + sum, d.x.back(), false);
        }
        d.due("an empty tape", d.x.back(), false);
        int[] good = {0, 0, 0, 0, 0, 162};
        for (int length = 0; length < good.length; length++) {
            d.tape(good);
            d.x.end(length);
            d.due("back of the first bytes " + length, d.x.back(), false);
        }
        d.tape(0, 0, 0, 0, 0, 162, 0);
        d.due("back with a byte more", d.x.back(), false);
        d.tape(0, 0, 0, 0, 0, 162, 239);
        d.due("back with a sum more", d.x.back(), false);
        d.due("nothing was taken", d.x.saint(1, 5), 6);
        d.tape(0, 0, 0, 0, 0, 162);
        d.due("back with its sum", d.x.back(), true);
        d.due("taken", d.x.saint(1, 5), 0);
        d = s.city(TextEdges.sixteenLanes());
        d.tape(0, 77, 0, 249);
        d.due("back with 247 more than the sum", d.x.back(), false);
        d.tape(0, 77, 0, 2);
        d.due("back with the sum", d.x.back(), true);
        d = s.city(TextEdges.sixteenLanes() + "saint ss at j pace 1 loud 0 petals 0;");
        d.due("an image of no saints", backOf(d, 25, 0, 0), false);
        d.due("an image of no saints", backOf(d, 1, 255, 0), false);
        d.due("lanes shut", d.x.has(7), 0);
        d = s.city("corner a parish 1;" + saint('s', 'a', 0));
        int[] rests = new int[29];
        Arrays.fill(rests, 1, 26, 101);
        rests[0] = 25;
        d.due("25 steps", backOf(d, rests), false);
    }

    private static void stepsThatCanBe() {
        Sentence s = new Sentence(39, "and all STEPS can be (SHUT LANES counting for nothing).");
        Desk d = merge(s, 0, 0);
        int[] can = {M, 101, 115, 130};
        int[] not = {0, 1, 2, N, 5, 9, 10, 99, 100, 131, 200, 255};
        for (int step : can) {
            d.due("back with the step " + step, backOf(d, 1, step, 0, 0, 0, 0), true);
        }
        for (int step : not) {
            d.due("back with the step " + step, backOf(d, 1, step, 0, 0, 0, 0), false);
            d.due("back with the step behind a rest " + step, backOf(d, 0, 2, 101, step == 1 ? 0 : step, 0, 0, 0), false);
        }
        d.due("from m back", backOf(d, 3, M, 2, M, 0, 0, 0, 0), true);
        d.due("from m to itself", backOf(d, 2, M, M, 0, 0, 0, 0), false);
        d.due("by lanes that it tells as shut", backOf(d, 2, M, N, 0, 0, 15, 0), true);
        d.due("END", d.x.saint(0, 5), 2);
        d.due("by lanes that are shut now", backOf(d, 0, 2, M, N, 0, 0, 0), true);
        d.due("END", d.x.saint(1, 5), 2);
        d = s.city("corner a parish 1; corner b parish 1; lane a b long 9 walls 0; saint s at a pace 5 loud 0 petals 0;");
        int[] steps = new int[27];
        steps[0] = 23;
        for (int i = 1; i <= 22; i++) {
            steps[i] = i % 2;
        }
        steps[23] = 109;
        d.due("up to 999", backOf(d, steps), true);
        d.due("END", d.x.saint(0, 5), 999);
        steps[23] = 110;
        d.due("up to 1000", backOf(d, steps), false);
        steps[23] = 1;
        d.due("up to 1035", backOf(d, steps), false);
        d.due("END still", d.x.saint(0, 5), 999);
        d = s.city("corner a parish 1; corner b parish 1; lane a b long 9 walls 0; saint s at a pace 5 loud 0 petals 0;"
                + "saint t at a pace 1 loud 0 petals 0;");
        d.due("up to 1035, as if it were of t alone", backOf(d, steps), false);
        d.due("steps", d.x.saint(1, 4), 0);
    }

    private static void backCall() {
        Sentence s = new Sentence(39, "The tape (it goes) is AN IMAGE: true, WAYS, SHUT LANES, EXCEPTIONS are as it tells, nothing can be undone; "
                + "false when it is none (all stays).");
        Desk d = merge(s, 9, 9);
        d.x.rest(0, 9);
        d.x.shut(2, true);
        d.x.but(2);
        d.due("false", backOf(d, 1, 100, 0, 0, 0, 0), false);
        d.due("the tape has gone", d.x.end(1), false);
        d.due("ways stay", d.x.saint(0, 5), 9);
        d.due("shut lanes stay", d.x.lane(2, 4), 1);
        d.due("exceptions stay", d.x.has(8), 2);
        d.due("acts stay", d.x.has(9), 3);
        d.due("undo", d.x.undo(), true);
        d.due("true", backOf(d, 0, 2, M, N, 0, 1, 1), true);
        d.due("the tape has gone", d.x.end(1), false);
        d.due("way of s", d.x.saint(0, 4), 0);
        d.due("way of t", d.x.saint(1, 5), 2);
        d.due("petals", d.x.petals(3, 2), 2);
        d.due("shut", d.x.lane(0, 4), 1);
        d.due("shut no more", d.x.lane(2, 4), 0);
        d.due("routes", d.x.routes(0), 0);
        d.due("on", d.x.has(8), 1);
        d.due("acts", d.x.has(9), 0);
        d.due("nothing can be undone", d.x.undo(), false);
        d.due("way of t", d.x.saint(1, 5), 2);
        d.due("the latest image is none of it", d.x.octet(0), NONE);
    }

    private static void calls() {
        Sentence s = new Sentence(1, "An object is used for at most 512 calls after it has been made; what later calls answer is free.");
        Desk d = s.desk();
        for (int call = 1; call <= 80; call++) {
            d.due("feed", d.x.feed(0x20202020, 0x20202020, 0x20202020, 0x20202020, 0x20202020), 20 * call);
        }
        d.due("call 81", d.x.end(1580), true);
        d.due("call 82", d.x.feed(0x72616969, 0x6e203530, 0x3b202020, 0x20202020, 0x20202020), 1600);
        d.due("call 83", d.x.city(), NONE);
        for (int call = 84; call < 512; call++) {
            d.due("call " + call, d.x.fault(1), 1580);
        }
        d.due("call 512", d.x.fault(0), 1);
    }
}
