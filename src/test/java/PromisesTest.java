/** For each promise of the document ordinary calls, its edges and wrong arguments, worked out by hand. */
public final class PromisesTest {
    private static final int NONE = NineSaints.NONE;
    private static final String STREETS = "corner a parish 1; corner b parish 2; corner c parish 3; corner d parish 2;"
            + "lane a b long 2 walls 3; lane b c long 3 walls 4; lane a d long 1 walls 9; lane d c long 4 walls 0;";
    private static final String NIGHT = STREETS
            + "saint x at a pace 2 loud 3 petals 5; saint y at c pace 1 loud 0 petals 9;"
            + "balcony at b from 4 to 4 worth 7; balcony at c from 0 to 0 worth 11;"
            + "but minute < 5 and sort = 0; but sort = 1 or far > 2; rain 30;";

    private static Desk night(int promise) {
        return Desk.with(promise, NIGHT, 15);
    }

    /** x from a to b (4), y from c to b (3) and on to a (5). */
    private static Desk crossing(int promise) {
        Desk d = night(promise);
        d.x.go(0, 1);
        d.x.go(1, 1);
        d.x.go(1, 0);
        return d;
    }

    private static void newObject() {
        Desk d = new Desk(1);
        for (int what = 0; what <= 9; what++) {
            d.due("has " + what, d.x.has(what), what == 5 ? NONE : 0);
        }
        d.due("NONE", NineSaints.NONE, -1);
        d.due("fault(0)", d.x.fault(0), 0);
        d.due("fault(1)", d.x.fault(1), NONE);
        d.due("sound", d.x.sound(0, 0), NONE);
        d.due("octet", d.x.octet(0), NONE);
    }

    private static void feed() {
        Desk d = new Desk(2);
        d.due("feed", d.x.feed(1, 2, 3, 4, 5), 20);
        d.due("end 0", d.x.end(0), true);
        d.due("feed", d.x.feed(0x20726169, 0x6e203920, 0x3b202020, 0x20202020, 0x20202020), 20);
        d.due("city", d.x.city(), 1);
        d.due("rain", d.x.has(5), 9);
        for (int i = 1; i <= 80; i++) {
            d.due("feed " + i, d.x.feed(0x20202020, 0x20202020, 0x20202020, 0x20202020, 0x20202020), 20 * i);
        }
        d.due("feed beyond", d.x.feed(0, 0, 0, 0, 0), NONE);
        d.due("end", d.x.end(1581), true);
        d.due("feed beyond", d.x.feed(0, 0, 0, 0, 0), NONE);
        d.due("end", d.x.end(1580), true);
        d.due("feed", d.x.feed(0x20202020, 0x20202020, 0x20202020, 0x20202020, 0x2020203b), 1600);
        d.due("city", d.x.city(), NONE);
        d.due("the last byte", d.x.fault(1), 1599);
        d.due("feed of high bytes", d.x.feed(-1, -1, -1, -1, -1), 20);
        d.due("city", d.x.city(), NONE);
        d.due("place", d.x.fault(1), 0);
    }

    private static void end() {
        Desk d = new Desk(3);
        d.due("end 0", d.x.end(0), true);
        d.due("end 1", d.x.end(1), false);
        d.due("end -1", d.x.end(-1), false);
        d.x.feed(0, 0, 0, 0, 0);
        d.due("end 21", d.x.end(21), false);
        d.due("end min", d.x.end(Integer.MIN_VALUE), false);
        d.due("end 20", d.x.end(20), true);
        d.due("end 7", d.x.end(7), true);
        d.due("end 8", d.x.end(8), false);
        d.due("feed", d.x.feed(0, 0, 0, 0, 0), 27);
    }

    private static void city() {
        Desk d = crossing(4);
        d.x.shut(3, true);
        d.x.but(1);
        d.due("a fault", d.tell("corner"), NONE);
        d.due("all stays", d.x.has(9), 5);
        d.due("all stays", d.x.saint(1, 5), 5);
        d.due("the tape has gone", d.x.end(1), false);
        d.due("again", d.tell(NIGHT), 15);
        d.due("the tape has gone", d.x.end(1), false);
        d.due("steps", d.x.saint(0, 4) + d.x.saint(1, 4), 0);
        d.due("shut", d.x.has(7), 0);
        d.due("on", d.x.has(8), 0);
        d.due("undone", d.x.has(9), 0);
        d.due("undo", d.x.undo(), false);
        d.due("an empty text", d.tell(""), 0);
        d.due("no corners", d.x.has(0), 0);
        d.due("no rain", d.x.has(5), NONE);
        d.due("blanks", d.tell(" \n "), 0);
        d.due("signs close by", d.tell("rain\n5;rain 6;but[all]and(1)<(2);rain 0007;"), 4);
        d.due("the last rain", d.x.has(5), 7);
        StringBuilder most = new StringBuilder();
        for (int i = 0; i < 70; i++) {
            most.append("rain 1;");
        }
        d.due("70 statements", d.tell(most.toString()), 70);
        d.due("and a blank", d.tell(most + " "), 70);
        for (int i = 0; i < 3; i++) {
            d.due("a test of 1600 bytes", d.tell("but 0" + many("+1", 795) + "<5;"), 1);
            d.due("words", d.x.words(0), 797);
        }
        d = new Desk(4);
        d.fault(many(";", 1600), 1, 0);
        d.fault(many("1 ", 800), 1, 0);
        d.fault(most + " %", 5, 491);
        d.fault(most + "rain 1;", 5, 490);
    }

    private static void fault() {
        Desk d = new Desk(5);
        d.due("what 2", d.x.fault(2), NONE);
        d.due("what -1", d.x.fault(-1), NONE);
        d.fault("corner", 1, 6);
        d.fault("corner a parish 1", 1, 17);
        d.fault("corner a parish 1 ", 1, 18);
        d.fault("  corne a", 1, 2);
        d.fault("corner lane parish 1;", 1, 7);
        d.fault("corner balcony parish 1;", 1, 7);
        d.fault("corner balconyx parish 1;", 1, 13);
        d.fault("corner abcdefg parish 1;", 1, 13);
        d.fault("corner A parish 1;", 1, 7);
        d.fault("corner a1 parish 1;", 1, 8);
        d.fault("corner a parish1;", 1, 15);
        d.fault("corner a parish 1x;", 1, 17);
        d.fault("corner a parish 12345;", 1, 20);
        d.fault("corner a parish 0;", 2, 16);
        d.fault("corner a parish 10;", 2, 16);
        d.fault("corner a parish 1,", 1, 17);
        d.fault("corner a parish 1; corner a parish 2;", 3, 26);
        d.fault("corner a parish 1; saint a at a pace 1 loud 0 petals 0;", 3, 25);
        d.fault("corner a parish 1; saint b at b pace 1 loud 0 petals 0;", 3, 30);
        d.fault("corner a parish 1; lane a a long 1 walls 1;", 3, 26);
        d.fault("corner a parish 1; lane b a long 1 walls 1;", 3, 24);
        d.fault("corner a parish 1; corner b parish 1; lane a b long 0 walls 1;", 2, 52);
        d.fault("corner a parish 1; corner b parish 1; lane a b long 1 walls 10;", 2, 60);
        d.fault("corner a parish 1; corner b parish 1; lane a b long 1 walls 1; lane b a long", 3, 70);
        d.fault("corner a parish 1; saint s at a pace 6 loud 0 petals 0;", 2, 37);
        d.fault("corner a parish 1; saint s at a pace 0 loud 0 petals 0;", 2, 37);
        d.fault("corner a parish 1; saint s at a pace 5 loud 21 petals 0;", 2, 44);
        d.fault("corner a parish 1; saint s at a pace 5 loud 20 petals 100;", 2, 54);
        d.fault("corner a parish 1; balcony at a from 5 to 4 worth 1;", 2, 42);
        d.fault("corner a parish 1; balcony at a from 1000 to 4 worth 1;", 2, 37);
        d.fault("corner a parish 1; balcony at a from 5 to 5 worth 0;", 2, 50);
        d.fault("rain 1000;", 2, 5);
        d.fault("rain ;", 1, 5);
        faultsOfTests(d);
        d.fault("rain 1;;", 1, 7);
        d.due("a city", d.tell("rain 3;"), 1);
        d.due("no fault", d.x.fault(0), 0);
        d.due("no place", d.x.fault(1), NONE);
    }

    private static void faultsOfTests(Desk d) {
        d.fault("but 1;", 1, 5);
        d.fault("but 1 < ;", 1, 8);
        d.fault("but 10000 < 1;", 1, 8);
        d.fault("but all or;", 1, 10);
        d.fault("but all all;", 1, 8);
        d.fault("but all 1;", 1, 8);
        d.fault("but 1<2or all;", 1, 7);
        d.fault("but min 1;", 1, 8);
        d.fault("but min(1) < 2;", 1, 9);
        d.fault("but [all;", 1, 8);
        d.fault("but (all);", 1, 5);
        d.fault("but x < 1;", 1, 4);
        d.due("six open", d.tell("but not [not [(((1)))<2 and (3)>2]];"), NONE);
        d.due("six open", d.tell("but not [not [not [1<2]]] and ((((((1)))))) = min(max(((((1)))), 1), 0);"), 1);
        d.fault("but not not not not not not not all;", 4, 28);
        d.fault("but [[[[[[[all]]]]]]];", 4, 10);
        d.fault("but (((((((1))))))) < 2;", 4, 10);
        d.fault("but not not [[[ min((1),2) < 3 ]]];", 4, 20);
        d.fault("but not not not not not not min(1,2) < 1;", 4, 31);
        d.due("a not ends with its fact", d.tell("but not not not not not not all and not all;"), 1);
        d.fault("but all; but all; but all; but all; but all; but all; but", 5, 54);
    }

    private static String many(String one, int times) {
        StringBuilder text = new StringBuilder();
        for (int i = 0; i < times; i++) {
            text.append(one.replace('#', (char) ('b' + i)));
        }
        return text.toString();
    }

    private static void has() {
        Desk d = crossing(6);
        int[] due = {4, 4, 2, 2, 2, 30, 3, 0, 0, 3};
        for (int what = 0; what < due.length; what++) {
            d.due("has " + what, d.x.has(what), due[what]);
        }
        d.x.shut(0, true);
        d.x.shut(2, true);
        d.x.but(2);
        d.due("shut", d.x.has(7), 2);
        d.due("on", d.x.has(8), 2);
        d.due("acts", d.x.has(9), 6);
        d.due("has 10", d.x.has(10), NONE);
        d.due("has -1", d.x.has(-1), NONE);
        String corners = many("corner #q parish 1;", 10);
        d.due("10 corners", d.tell(corners), 10);
        d.fault(corners + "corner", 5, 190);
        StringBuilder lanes = new StringBuilder(corners);
        for (int i = 0; i < 16; i++) {
            lanes.append("lane ").append((char) ('b' + i % 10)).append("q ").append((char) ('b' + (i % 10 + 1 + i / 10) % 10))
                    .append("q long 1 walls 1;");
        }
        d.due("16 lanes", d.tell(lanes.toString()), 26);
        d.fault(lanes + "lane", 5, lanes.length());
        String saints = "corner a parish 1;" + many("saint #q at a pace 1 loud 0 petals 0;", 4);
        d.due("4 saints", d.tell(saints), 5);
        d.fault(saints + "saint 5", 5, saints.length());
        String balconies = "corner a parish 1;" + many("balcony at a from 0 to 0 worth 1;", 10);
        d.due("10 balconies", d.tell(balconies), 11);
        d.fault(balconies + "balcony", 5, balconies.length());
    }

    private static void letter() {
        Desk d = Desk.with(7, "corner abcxyz parish 1; corner q parish 2; saint mz at q pace 1 loud 0 petals 0;", 3);
        int[] due = {1, 2, 3, 24, 25, 26};
        for (int k = 0; k < 6; k++) {
            d.due("letter 0 0 " + k, d.x.letter(0, 0, k), due[k]);
        }
        d.due("letter 0 1 0", d.x.letter(0, 1, 0), 17);
        d.due("letter 0 1 1", d.x.letter(0, 1, 1), 0);
        d.due("letter 0 1 5", d.x.letter(0, 1, 5), 0);
        d.due("letter 1 0 1", d.x.letter(1, 0, 1), 26);
        d.due("letter 1 0 2", d.x.letter(1, 0, 2), 0);
        d.due("letter 1 1 0", d.x.letter(1, 1, 0), NONE);
        d.due("letter 0 2 0", d.x.letter(0, 2, 0), NONE);
        d.due("letter 0 -1 0", d.x.letter(0, -1, 0), NONE);
        d.due("letter 0 0 6", d.x.letter(0, 0, 6), NONE);
        d.due("letter 0 0 -1", d.x.letter(0, 0, -1), NONE);
        d.due("letter 2 0 0", d.x.letter(2, 0, 0), NONE);
        d.due("letter -1 0 0", d.x.letter(-1, 0, 0), NONE);
    }

    private static void lane() {
        Desk d = night(8);
        int[] due = {3, 2, 4, 0, 0};
        for (int what = 0; what < due.length; what++) {
            d.due("lane 3 " + what, d.x.lane(3, what), due[what]);
        }
        d.x.shut(3, true);
        d.due("shut", d.x.lane(3, 4), 1);
        d.due("another", d.x.lane(2, 4), 0);
        d.due("lane 4", d.x.lane(4, 0), NONE);
        d.due("lane -1", d.x.lane(-1, 0), NONE);
        d.due("what 5", d.x.lane(0, 5), NONE);
        d.due("what -1", d.x.lane(0, -1), NONE);
    }

    private static void sound() {
        Desk d = night(9);
        d.due("a a", d.x.sound(0, 0), 0);
        d.due("a b", d.x.sound(0, 1), 3);
        d.due("a c", d.x.sound(0, 2), 7);
        d.due("a d by b and c", d.x.sound(0, 3), 7);
        d.due("d b", d.x.sound(3, 1), 4);
        d.due("c d", d.x.sound(2, 3), 0);
        d.x.shut(3, true);
        d.due("shut or not", d.x.sound(2, 3), 0);
        d.due("4", d.x.sound(0, 4), NONE);
        d.due("-1", d.x.sound(-1, 0), NONE);
        d.tell("corner a parish 1; corner b parish 1;");
        d.due("no lanes", d.x.sound(0, 1), 999);
    }

    private static void saint() {
        Desk d = crossing(10);
        int[] due = {2, 1, 0, 9, 2, 5, 0};
        for (int what = 0; what < due.length; what++) {
            d.due("saint 1 " + what, d.x.saint(1, what), due[what]);
        }
        d.x.clear(1);
        d.due("no steps", d.x.saint(1, 4), 0);
        d.due("end", d.x.saint(1, 5), 0);
        d.due("ends at home", d.x.saint(1, 6), 2);
        d.due("what 7", d.x.saint(0, 7), NONE);
        d.due("what -1", d.x.saint(0, -1), NONE);
        d.due("saint 2", d.x.saint(2, 0), NONE);
        d.due("saint -1", d.x.saint(-1, 0), NONE);
    }

    private static void go() {
        Desk d = night(11);
        d.due("to c", d.x.go(0, 2), NONE);
        d.due("to itself", d.x.go(0, 0), NONE);
        d.due("to b", d.x.go(0, 1), 4);
        d.due("to c", d.x.go(0, 2), 10);
        d.due("corner 4", d.x.go(0, 4), NONE);
        d.due("corner -1", d.x.go(0, -1), NONE);
        d.due("saint 2", d.x.go(2, 0), NONE);
        d.due("saint -1", d.x.go(-1, 0), NONE);
        d.x.shut(3, true);
        d.due("shut", d.x.go(0, 3), NONE);
        d.x.shut(3, false);
        d.due("open", d.x.go(0, 3), 18);
        for (int i = 3; i < 24; i++) {
            d.due("step " + i, d.x.go(0, i % 2 == 1 ? 2 : 3), 18 + 8 * (i - 2));
        }
        d.due("the 25th", d.x.go(0, 3), NONE);
        d.due("24 steps", d.x.saint(0, 4), 24);
        d.due("ends at c", d.x.saint(0, 6), 2);
        d.due("where", d.x.where(0, 999), 2);
        d.due("the last lane", d.x.on(0, d.x.saint(0, 5)), 3);
        d.tell("corner a parish 1; corner b parish 1; lane a b long 9 walls 0; saint s at a pace 5 loud 0 petals 0;");
        for (int i = 1; i <= 22; i++) {
            d.due("long " + i, d.x.go(0, i % 2), 45 * i);
        }
        d.due("1035", d.x.go(0, 1), NONE);
        d.due("rest", d.x.rest(0, 9), 999);
        d.x.clear(0);
        d.x.rest(0, 9);
        for (int i = 1; i <= 22; i++) {
            d.due("by 999 " + i, d.x.go(0, i % 2), 9 + 45 * i);
        }
        d.due("there at 999", d.x.where(0, 999), 0);
        d.due("ahead of it", d.x.where(0, 998), 1);
        d.due("petals of none", d.x.petals(0, 999), 0);
    }

    private static void rest() {
        Desk d = night(12);
        d.due("0", d.x.rest(0, 0), NONE);
        d.due("31", d.x.rest(0, 31), NONE);
        d.due("-1", d.x.rest(0, -1), NONE);
        d.due("saint 2", d.x.rest(2, 1), NONE);
        d.due("saint -1", d.x.rest(-1, 1), NONE);
        d.due("1", d.x.rest(0, 1), 1);
        d.due("30", d.x.rest(0, 30), 31);
        d.due("go", d.x.go(0, 1), 35);
        d.due("on while resting", d.x.on(0, 31), NONE);
        d.due("on", d.x.on(0, 32), 0);
        for (int i = 3; i < 24; i++) {
            d.due("rest " + i, d.x.rest(0, 2), 35 + 2 * (i - 2));
        }
        d.due("the 25th", d.x.rest(0, 1), NONE);
        d.tell("corner a parish 1; corner b parish 1; lane a b long 9 walls 0; saint s at a pace 5 loud 0 petals 0;");
        for (int i = 1; i <= 22; i++) {
            d.x.go(0, i % 2);
        }
        d.due("1000", d.x.rest(0, 10), NONE);
        d.due("999", d.x.rest(0, 9), 999);
        d.due("1000", d.x.rest(0, 1), NONE);
    }

    private static void clear() {
        Desk d = crossing(13);
        d.due("clear", d.x.clear(0), true);
        d.due("again", d.x.clear(0), false);
        d.due("2", d.x.clear(2), false);
        d.due("-1", d.x.clear(-1), false);
        d.due("the other", d.x.saint(1, 4), 2);
        d.due("from its corner", d.x.go(0, 3), 2);
    }

    private static void undo() {
        Desk d = night(14);
        d.due("nothing", d.x.undo(), false);
        d.x.go(0, 1);
        d.x.go(0, 0);
        d.x.rest(1, 4);
        d.x.clear(0);
        d.x.shut(1, true);
        d.x.but(3);
        d.x.go(0, 2);
        d.x.clear(0);
        d.x.shut(1, true);
        d.x.but(3);
        d.due("acts that did something", d.x.has(9), 6);
        d.due("undo but", d.x.undo(), true);
        d.due("on", d.x.has(8), 0);
        d.due("undo shut", d.x.undo(), true);
        d.due("shut", d.x.lane(1, 4), 0);
        d.due("undo clear", d.x.undo(), true);
        d.due("steps", d.x.saint(0, 5), 8);
        d.due("undo rest", d.x.undo(), true);
        d.due("steps", d.x.saint(1, 4), 0);
        d.due("undo go", d.x.undo(), true);
        d.due("where", d.x.where(0, 999), 1);
        d.due("undo go", d.x.undo(), true);
        d.due("undo", d.x.undo(), false);
        undoOfPlans(d);
        for (int i = 0; i < 24; i++) {
            d.x.rest(1, 1);
        }
        d.due("twenty", d.x.has(9), 20);
        for (int i = 0; i < 20; i++) {
            d.due("undo " + i, d.x.undo(), true);
        }
        d.due("no more", d.x.undo(), false);
        d.due("four stay", d.x.saint(1, 5), 4);
        for (int i = 0; i < 20; i++) {
            d.x.rest(1, 1);
        }
        d.due("nothing to mend", d.x.mend(), 0);
        d.due("can't be", d.x.rest(1, 1), NONE);
        for (int i = 0; i < 20; i++) {
            d.x.undo();
        }
        d.due("what did nothing pushes nothing out", d.x.saint(1, 5), 4);
    }

    private static void undoOfPlans(Desk d) {
        d.x.turn();
        d.due("turn", d.x.has(9), 1);
        d.due("a turn of none", d.x.turn(), 0);
        d.due("is no act", d.x.has(9), 1);
        d.due("a mend of none", d.x.mend(), 0);
        d.due("is no act", d.x.has(9), 1);
        d.x.clear(0);
        d.x.take();
        d.due("take", d.x.has(9), 3);
        d.due("undo take", d.x.undo(), true);
        d.due("steps", d.x.saint(0, 4), 0);
        d.due("undo clear", d.x.undo(), true);
        d.due("undo turn", d.x.undo(), true);
        d.due("steps", d.x.saint(0, 4) + d.x.saint(1, 4), 0);
        d.x.go(0, 1);
        d.x.go(1, 1);
        d.due("mend", d.x.mend(), 1);
        d.due("mend is an act", d.x.has(9), 3);
        d.x.undo();
        d.due("end as before", d.x.saint(0, 5), 4);
        d.due("end as before", d.x.saint(1, 5), 3);
        d.x.undo();
        d.x.undo();
    }

    private static void where() {
        Desk d = crossing(15);
        int[] due = {2, 2, 2, 1, 1, 0, 0};
        for (int m = 0; m < due.length; m++) {
            d.due("where 1 " + m, d.x.where(1, m), due[m]);
        }
        d.due("999", d.x.where(1, 999), 0);
        d.due("1000", d.x.where(1, 1000), NONE);
        d.due("-1", d.x.where(1, -1), NONE);
        d.due("saint 2", d.x.where(2, 0), NONE);
        d.due("saint -1", d.x.where(-1, 0), NONE);
        d.x.clear(1);
        d.due("at home", d.x.where(1, 5), 2);
    }

    private static void on() {
        Desk d = crossing(16);
        int[] due = {NONE, 1, 1, 1, 0, 0, NONE};
        for (int m = 0; m < due.length; m++) {
            d.due("on 1 " + m, d.x.on(1, m), due[m]);
        }
        d.due("1000", d.x.on(1, 1000), NONE);
        d.due("-1", d.x.on(1, -1), NONE);
        d.due("saint 2", d.x.on(2, 1), NONE);
        d.due("saint -1", d.x.on(-1, 1), NONE);
    }

    private static void petals() {
        Desk d = crossing(17);
        d.due("3", d.x.petals(0, 3), 0);
        d.due("4", d.x.petals(0, 4), 1);
        d.due("5", d.x.petals(0, 5), 3);
        d.due("8", d.x.petals(0, 8), 3);
        d.due("9", d.x.petals(0, 9), 2);
        d.due("13", d.x.petals(0, 13), 2);
        d.due("14", d.x.petals(0, 14), 0);
        d.due("lane 1", d.x.petals(1, 3), 2);
        d.due("lane 4", d.x.petals(4, 3), NONE);
        d.due("lane -1", d.x.petals(-1, 3), NONE);
        d.due("1000", d.x.petals(0, 1000), NONE);
        d.due("-1", d.x.petals(0, -1), NONE);
        d.x.rest(1, 20);
        d.due("rest", d.x.rest(1, 1), 26);
        d.due("go", d.x.go(1, 1), 28);
        d.due("ahead of the rain", d.x.petals(0, 29), 2);
        d.due("rain", d.x.petals(0, 30), 0);
        d.due("go", d.x.go(1, 0), 30);
        d.due("in the minute of the rain", d.x.petals(0, 30), 2);
        d.due("last", d.x.petals(0, 38), 2);
        d.due("behind", d.x.petals(0, 39), 0);
    }

    private static void passes() {
        Desk d = crossing(18);
        d.due("1 1", d.x.passes(1, 1), 5);
        d.due("1 2", d.x.passes(1, 2), 3);
        d.due("1 3", d.x.passes(1, 3), 0);
        d.due("0 3", d.x.passes(0, 3), NONE);
        d.due("parish 4", d.x.passes(0, 4), NONE);
        d.due("parish 0", d.x.passes(0, 0), NONE);
        d.due("saint 2", d.x.passes(2, 1), NONE);
        d.due("saint -1", d.x.passes(-1, 1), NONE);
        d.x.clear(1);
        d.due("without steps", d.x.passes(1, 3), NONE);
        d.x.rest(1, 1);
        d.due("a rest is a step", d.x.passes(1, 3), 0);
    }

    private static void clash() {
        Desk d = crossing(19);
        int[] due = {3, 0, 0, 1};
        for (int what = 0; what < due.length; what++) {
            d.due("clash " + what, d.x.clash(what), due[what]);
        }
        d.due("4", d.x.clash(4), NONE);
        d.due("-1", d.x.clash(-1), NONE);
        d.x.but(1);
        d.due("of petals at 4", d.x.clash(0), 4);
        d.due("of petals", d.x.clash(1), 1);
        d.x.but(2);
        d.due("of drums at 4", d.x.clash(0), 4);
        d.due("of drums", d.x.clash(1), 0);
        d.x.but(3);
        for (int what = 0; what < due.length; what++) {
            d.due("none " + what, d.x.clash(what), NONE);
        }
        d.tell(STREETS + many("saint #q at a pace 1 loud 0 petals 9;", 4) + "but minute < 1;");
        d.x.go(3, 3);
        d.x.rest(1, 1);
        d.x.rest(2, 1);
        d.due("of the lesser", d.x.clash(2), 1);
        d.due("of the lesser", d.x.clash(3), 2);
        d.x.but(1);
        d.due("minute", d.x.clash(0), 1);
        d.x.undo();
        d.x.undo();
        d.due("3 goes", d.x.clash(3), 3);
        d.due("those out alone", d.x.clash(2), 1);
        d.tell("corner a parish 1; corner b parish 1; lane a b long 9 walls 9; saint s at a pace 5 loud 0 petals 9;"
                + "saint t at b pace 5 loud 8 petals 9; but sort = 1 and far = 0;");
        for (int i = 1; i <= 20; i++) {
            d.x.go(0, i % 2);
            d.x.rest(1, 30);
        }
        d.x.but(1);
        d.due("minute 45", d.x.clash(0), 45);
        d.x.clear(0);
        d.x.clear(1);
        for (int i = 1; i <= 24; i++) {
            d.x.rest(0, 30);
            d.x.rest(1, 28);
        }
        d.due("go", d.x.go(1, 0), NONE);
        d.x.undo();
        d.due("go", d.x.go(1, 0), 689);
        d.due("late", d.x.clash(0), 689);
        d.due("first", d.x.meet(0, 1), 689);
        d.due("drums in the end", d.x.clashes(0), 1);
    }

    /** What holds in a minute and a sound says nothing of another minute or sound. */
    private static void exceptionsByMinute() {
        Desk d = Desk.with(19, "corner a parish 1; corner b parish 1; lane a b long 1 walls 1;"
                + "saint s at a pace 1 loud 1 petals 0; saint t at a pace 1 loud 1 petals 0; saint u at a pace 1 loud 1 petals 0;"
                + "but minute < 64; but minute - minute / 64 * 64 > 0; but minute = 64 or minute = 0; but far = 1;", 10);
        for (int i = 0; i < 5; i++) {
            d.x.rest(0, 30);
            d.x.rest(1, 30);
        }
        d.x.but(1);
        d.due("at 64", d.x.clash(0), 64);
        d.x.but(2);
        d.due("at 0", d.x.clash(0), 0);
        d.x.but(6);
        d.due("at 128", d.x.clash(0), 128);
        d.x.but(4);
        d.due("at 1", d.x.clash(0), 1);
        d.x.clear(1);
        d.x.go(1, 1);
        for (int i = 0; i < 5; i++) {
            d.x.rest(1, 30);
        }
        d.x.but(1);
        d.due("near, at 64", d.x.clash(0), 64);
        d.x.but(8);
        d.due("near ones excepted", d.x.clash(0), 0);
        d.x.but(12);
        d.due("all", d.x.clash(0), NONE);
        d.x.clear(0);
        d.x.go(2, 1);
        d.x.rest(2, 30);
        d.x.rest(2, 30);
        d.x.rest(2, 30);
        d.x.but(1);
        d.due("another pair", d.x.clash(0), 64);
        d.due("another pair", d.x.clash(3), 2);
        d.due("softer", d.x.softer(0), 6);
    }

    /** Petals: their sort is 1, their sound is 0. */
    private static void exceptionsOfPetals() {
        String[][] tests = {{"sort = 1 and far = 0", "1"}, {"far > 0", "0"}, {"minute = 5 or minute = 4", "1"}};
        for (String[] test : tests) {
            Desk d = Desk.with(19, STREETS + "saint x at a pace 2 loud 0 petals 5; saint y at c pace 1 loud 0 petals 9;"
                    + "but sort = 0; but " + test[0] + ";", 12);
            d.x.go(0, 1);
            d.x.go(1, 1);
            d.x.go(1, 0);
            d.x.but(1);
            d.due("of petals", d.x.clash(1), 1);
            d.x.but(3);
            d.due("clash(0) but " + test[0], d.x.clash(0), test[1].equals("1") ? NONE : 4);
        }
    }

    /** The facts of a clash and what is worked out with them. */
    private static void exceptions() {
        String drums = "corner a parish 1; corner b parish 1; lane a b long 3 walls 2;"
                + "saint s at a pace 1 loud 0 petals 0; saint t at a pace 1 loud 5 petals 0;"
                + "saint u at b pace 1 loud 0 petals 0;";
        String[][] tests = {
            {"far = 2 and first = 1 and second = 2", "1"}, {"sort = 0", "1"}, {"sort = 1", "0"},
            {"minute = 0", "0"}, {"minute < 2", "1"}, {"minute > 0 or minute = 0", "1"},
            {"1 + 2 * 3 = 7", "1"}, {"7 - 2 - 1 = 4", "1"}, {"8 / 2 / 2 = 2", "1"}, {"8 / 2 * 2 = 8", "1"},
            {"(0 - 7) / 2 = 0 - 4", "1"}, {"7 / (0 - 2) = 0 - 4", "1"}, {"5 / 0 = 0", "1"},
            {"9999 * 9999 = 1000 * 1000", "1"}, {"0 - 9999 * 9999 - 5 = 0 - 1000 * 1000", "1"},
            {"9999 * 100 + 9999 = 999 * 1000 + 1000", "1"}, {"9999 * 9999 - 1 = 9999 * 100 + 99", "1"},
            {"min(far, 1) = 1 and max(far, 3) = 3", "1"}, {"max(min(1, 2), 0) = 1", "1"},
            {"all and not all", "0"}, {"all or all and not all", "1"}, {"[all or all] and not all", "0"},
            {"not all or [all]", "1"}, {"not all or not [all and [not all]]", "1"}, {"all and [not all or [all]]", "1"},
            {"not all or all", "1"}, {"not [not all or all]", "0"}, {"not 1 = 2 and 3 < 4", "1"},
            {"second - first = 1", "1"}, {"minute * minute = minute", "1"},
        };
        for (String[] test : tests) {
            Desk d = Desk.with(19, drums + "but " + test[0] + ";", 7);
            d.x.rest(1, 1);
            d.x.rest(2, 1);
            d.x.but(1);
            d.due("clash(0) but " + test[0], d.x.clash(0), test[1].equals("1") ? NONE : test[0].equals("minute = 0") ? 1 : 0);
        }
    }

    private static void clashes() {
        Desk d = crossing(20);
        d.due("drums", d.x.clashes(0), 2);
        d.due("petals", d.x.clashes(1), 2);
        d.x.but(3);
        d.due("excepted too", d.x.clashes(0), 2);
        d.due("2", d.x.clashes(2), NONE);
        d.due("-1", d.x.clashes(-1), NONE);
        d.tell("corner a parish 1; corner b parish 1; lane a b long 2 walls 9;" + many("saint #q at a pace 1 loud 0 petals 9;", 3));
        for (int s = 0; s < 3; s++) {
            d.x.go(s, 1);
            d.x.go(s, 0);
        }
        d.due("pair by pair", d.x.clashes(0), 15);
        d.due("once a pair and minute", d.x.clashes(1), 9);
    }

    private static void meet() {
        Desk d = crossing(21);
        d.x.but(3);
        d.due("0 1", d.x.meet(0, 1), 3);
        d.due("1 0", d.x.meet(1, 0), 3);
        d.due("0 0", d.x.meet(0, 0), NONE);
        d.due("0 2", d.x.meet(0, 2), NONE);
        d.due("-1 0", d.x.meet(-1, 0), NONE);
        d.x.clear(0);
        d.due("never", d.x.meet(0, 1), NONE);
        d.tell(STREETS + "saint x at a pace 1 loud 0 petals 9; saint y at a pace 1 loud 0 petals 1;");
        d.x.go(0, 1);
        d.x.undo();
        d.x.go(0, 3);
        d.x.go(0, 2);
        d.x.go(1, 1);
        d.x.go(1, 2);
        d.x.go(1, 3);
        d.due("at first", d.x.meet(0, 1), 0);
    }

    private static void pleased() {
        Desk d = night(22);
        d.due("none", d.x.pleased(), 0);
        d.x.rest(1, 1);
        d.due("0 at first", d.x.pleased(), 11);
        d.x.go(0, 1);
        d.due("both", d.x.pleased(), 18);
        d.x.undo();
        d.x.rest(0, 1);
        d.x.go(0, 1);
        d.due("too late", d.x.pleased(), 11);
        d.x.clear(0);
        d.x.clear(1);
        d.x.rest(1, 1);
        d.x.go(1, 1);
        d.due("y comes at 4", d.x.pleased(), 18);
        d.x.rest(0, 2);
        d.x.go(0, 3);
        d.due("as before", d.x.pleased(), 18);
    }

    private static void but() {
        Desk d = night(23);
        d.due("0 already", d.x.but(0), false);
        d.due("3", d.x.but(3), true);
        d.due("3 already", d.x.but(3), false);
        d.due("4", d.x.but(4), false);
        d.due("-1", d.x.but(-1), false);
        d.due("still", d.x.has(8), 3);
        d.due("2", d.x.but(2), true);
        d.due("no others", d.x.has(8), 2);
        d.due("none", d.x.but(0), true);
    }

    private static void words() {
        Desk d = night(24);
        d.due("0", d.x.words(0), 5);
        d.due("1", d.x.words(1), 5);
        d.due("2", d.x.words(2), NONE);
        d.due("-1", d.x.words(-1), NONE);
        d.tell("but all; but not [ all ]; but (1) + 2 < min(3, far); but minute-1<2;");
        d.due("all", d.x.words(0), 1);
        d.due("signs not", d.x.words(1), 2);
        d.due("min", d.x.words(2), 5);
        d.due("minus", d.x.words(3), 3);
    }

    private static void softer() {
        Desk d = crossing(25);
        d.due("both", d.x.softer(0), 3);
        d.due("words", d.x.softer(1), 10);
        d.due("2", d.x.softer(2), NONE);
        d.due("-1", d.x.softer(-1), NONE);
        d.x.but(3);
        d.due("whatever is on", d.x.softer(0), 3);
        d.x.clear(0);
        d.due("none needed", d.x.softer(0), 0);
        d.due("no words", d.x.softer(1), 0);
        d.tell("corner a parish 1; saint s at a pace 1 loud 0 petals 0; saint t at a pace 1 loud 0 petals 0;"
                + "but sort = 0 and all; but minute < 1; but minute > 0; but far < 1 or 2 < 1; but sort = 0 or far > 1;");
        d.x.rest(0, 3);
        d.x.rest(1, 3);
        d.due("four words, the first of like ones", d.x.softer(0), 1);
        d.due("words", d.x.softer(1), 4);
        d.tell("corner a parish 1; saint s at a pace 1 loud 0 petals 0; saint t at a pace 1 loud 0 petals 0;"
                + "but sort + 0 < 1 and 1 < 2 and 3 < 4; but minute < 2; but minute > 1; but minute < 3;");
        d.x.rest(0, 4);
        d.x.rest(1, 4);
        d.due("two together", d.x.softer(0), 6);
        d.due("words", d.x.softer(1), 4);
        d.tell("corner a parish 1; saint s at a pace 1 loud 0 petals 0; saint t at a pace 1 loud 0 petals 0; but minute > 0;");
        d.x.rest(0, 4);
        d.x.rest(1, 4);
        d.due("none such", d.x.softer(0), NONE);
        d.due("none such", d.x.softer(1), NONE);
    }

    private static void shut() {
        Desk d = crossing(26);
        d.due("open already", d.x.shut(0, false), false);
        d.due("shut", d.x.shut(0, true), true);
        d.due("shut already", d.x.shut(0, true), false);
        d.due("lane 4", d.x.shut(4, true), false);
        d.due("lane -1", d.x.shut(-1, true), false);
        d.due("ways stay", d.x.saint(1, 5), 5);
        d.due("petals stay", d.x.petals(0, 5), 3);
        d.due("no step by it", d.x.go(1, 1), NONE);
        d.due("open", d.x.shut(0, false), true);
        d.due("a step by it", d.x.go(1, 1), 7);
    }

    private static void sweep() {
        Desk d = crossing(27);
        d.due("one", d.x.sweep(NONE), 1);
        d.due("lane 0", d.x.sweep(0), 0);
        d.due("no second", d.x.sweep(1), NONE);
        d.due("-2", d.x.sweep(-2), NONE);
        d.x.but(2);
        d.due("excepted", d.x.sweep(NONE), 0);
        d.due("excepted", d.x.sweep(0), NONE);
        d.tell(STREETS + "saint x at a pace 1 loud 0 petals 99; saint y at a pace 1 loud 0 petals 0;");
        d.x.go(0, 3);
        d.x.go(0, 2);
        d.x.go(0, 1);
        d.x.rest(1, 8);
        d.x.go(1, 3);
        d.x.go(1, 0);
        d.x.go(1, 1);
        d.x.go(1, 2);
        d.due("two", d.x.sweep(NONE), 2);
        d.due("lane 1", d.x.sweep(0), 1);
        d.due("lane 2", d.x.sweep(1), 2);
    }

    private static void routes() {
        Desk d = night(28);
        d.due("x", d.x.routes(0), 2);
        d.due("y", d.x.routes(1), 2);
        d.due("2", d.x.routes(2), NONE);
        d.due("-1", d.x.routes(-1), NONE);
        d.x.shut(0, true);
        d.due("shut", d.x.routes(0), 1);
        d.x.shut(2, true);
        d.due("none", d.x.routes(0), 0);
        d.x.undo();
        d.due("undone", d.x.routes(0), 1);
        d.tell("corner a parish 1; corner b parish 2; corner c parish 2; corner d parish 2; corner e parish 3; corner f parish 3;"
                + "corner g parish 3; corner h parish 4; corner i parish 4; corner j parish 4;"
                + "lane a b long 1 walls 1; lane a c long 1 walls 1; lane a d long 1 walls 1; lane b e long 1 walls 1;"
                + "lane b f long 1 walls 1; lane c e long 1 walls 1; lane c f long 1 walls 1; lane d e long 1 walls 1;"
                + "lane d f long 1 walls 1; lane e h long 1 walls 1; lane e i long 1 walls 1; lane e j long 1 walls 1;"
                + "lane f h long 1 walls 1; lane f i long 1 walls 1; lane f j long 1 walls 1; lane b g long 1 walls 1;"
                + "saint s at a pace 1 loud 1 petals 1; saint t at h pace 1 loud 1 petals 1;");
        d.due("3 * 2 * 3", d.x.routes(0), 18);
        d.due("the last", d.x.route(0, 17, 3), 9);
        d.due("of h", d.x.routes(1), 6);
        d.tell(complete() + "saint s at a pace 1 loud 1 petals 1;");
        d.due("20 at most", d.x.routes(0), 20);
        int[] last = {0, 1, 5, 2, 4, 3};
        for (int k = 0; k < last.length; k++) {
            d.due("the 20th " + k, d.x.route(0, 19, k), last[k]);
        }
    }

    /** Six corners, each a parish of its own, with lanes between all of them. */
    private static String complete() {
        StringBuilder text = new StringBuilder();
        for (char c = 'a'; c <= 'f'; c++) {
            text.append("corner ").append(c).append(" parish ").append(c - 'a' + 1).append(";");
        }
        for (char c = 'a'; c <= 'f'; c++) {
            for (char to = (char) (c + 1); to <= 'f'; to++) {
                text.append("lane ").append(c).append(' ').append(to).append(" long 1 walls 1;");
            }
        }
        return text.toString();
    }

    private static void route() {
        Desk d = night(29);
        int[][] due = {{0, 1, 2}, {0, 3, 2}};
        for (int r = 0; r < 2; r++) {
            for (int k = 0; k < 3; k++) {
                d.due("route 0 " + r + " " + k, d.x.route(0, r, k), due[r][k]);
                d.due("route 1 " + r + " " + k, d.x.route(1, r, k), due[r][2 - k]);
            }
        }
        d.due("k 3", d.x.route(0, 0, 3), NONE);
        d.due("k -1", d.x.route(0, 0, -1), NONE);
        d.due("route 2", d.x.route(0, 2, 0), NONE);
        d.due("route -1", d.x.route(0, -1, 0), NONE);
        d.due("saint 2", d.x.route(2, 0, 0), NONE);
        d.due("saint -1", d.x.route(-1, 0, 0), NONE);
        d.x.shut(1, true);
        d.due("the other one is first now", d.x.route(0, 0, 1), 3);
    }

    private static void together() {
        Desk d = night(30);
        d.due("ends", d.x.together(NONE), 20);
        d.due("x", d.x.together(0), 0);
        d.due("y", d.x.together(1), 4);
        d.due("2", d.x.together(2), NONE);
        d.due("-2", d.x.together(-2), NONE);
        d.x.go(0, 1);
        d.due("ways do not count", d.x.together(NONE), 20);
        d.x.but(2);
        d.due("far ones excepted", d.x.together(NONE), 15);
        d.due("x", d.x.together(0), 0);
        d.due("y", d.x.together(1), 3);
        d.x.but(0);
        d.x.shut(0, true);
        d.due("none", d.x.together(NONE), NONE);
        d.due("none", d.x.together(0), NONE);
        Desk none = new Desk(30);
        none.due("without saints", none.x.together(NONE), 0);
        none.due("without saints", none.x.together(0), NONE);
    }

    private static void bars() {
        Desk d = night(31);
        d.due("none", d.x.bars(), 0);
        d.x.shut(0, true);
        d.due("the least bits of like ones", d.x.bars(), 1);
        d.x.shut(2, true);
        d.due("none has a route", d.x.bars(), 3);
        d.tell(STREETS + "corner e parish 1; lane e b long 1 walls 9; corner f parish 1;"
                + "saint x at a pace 1 loud 0 petals 0; saint y at f pace 1 loud 0 petals 0;");
        d.due("y has no route", d.x.bars(), 2);
        Desk none = new Desk(31);
        none.due("without saints", none.x.bars(), 0);
    }

    private static void take() {
        Desk d = night(32);
        d.x.go(1, 3);
        d.due("take", d.x.take(), 20);
        d.due("steps of x", d.x.saint(0, 4), 2);
        d.due("steps of y", d.x.saint(1, 4), 3);
        d.due("y by d", d.x.where(1, 9), 3);
        d.due("y rests first", d.x.on(1, 5), NONE);
        d.due("then goes", d.x.on(1, 6), 3);
        d.due("nothing clashes", d.x.clash(0), NONE);
        d.x.shut(0, true);
        d.due("none such", d.x.take(), NONE);
        d.due("does nothing", d.x.saint(0, 4), 2);
        d.due("acts", d.x.has(9), 3);
        Desk none = new Desk(32);
        none.due("without saints", none.x.take(), NONE);
        none.due("no act", none.x.has(9), 0);
    }

    private static void mend() {
        Desk d = night(33);
        d.due("all stay", d.x.mend(), 0);
        d.x.take();
        d.due("all stay", d.x.mend(), 0);
        d.x.shut(0, true);
        d.due("can't be", d.x.mend(), NONE);
        d.due("nothing done", d.x.saint(0, 5), 10);
        d.x.shut(0, false);
        d.x.clear(1);
        d.x.shut(1, true);
        d.due("x by d, y stays without steps", d.x.mend(), 1);
        d.due("x at d", d.x.where(0, 2), 3);
        d.due("y", d.x.saint(1, 4), 0);
        d.tell(NIGHT);
        d.x.go(0, 1);
        d.x.go(1, 1);
        d.due("they clash: one changes", d.x.mend(), 1);
        d.due("lawful", d.x.clash(0), NONE);
        d.due("x stays", d.x.saint(0, 4), 1);
        d.due("y by d at once", d.x.saint(1, 5), 5);
        Desk none = new Desk(33);
        none.due("without saints", none.x.mend(), 0);
    }

    private static void turn() {
        Desk d = night(34);
        d.due("both", d.x.turn(), 2);
        d.due("x", d.x.saint(0, 5), 10);
        d.due("y beside x", d.x.saint(1, 5), 10);
        d.due("y by d", d.x.where(1, 9), 3);
        d.due("they rest", d.x.turn(), 0);
        d.x.clear(0);
        d.due("y first free", d.x.turn(), 1);
        d.x.clear(0);
        d.x.rest(0, 1);
        d.x.undo();
        d.x.shut(3, true);
        d.due("y has a shut lane", d.x.saint(1, 4), 3);
        d.due("x by b; y none beside it", d.x.turn(), 1);
        Desk none = new Desk(34);
        none.due("without saints", none.x.turn(), 0);
        Desk clash = Desk.with(34, NIGHT, 15);
        clash.x.go(0, 3);
        clash.x.rest(1, 4);
        clash.due("x clashes and takes, though it ends later", clash.x.turn(), 1);
        clash.due("x by b", clash.x.saint(0, 5), 10);
    }

    private static void lots() {
        Desk d = night(35);
        d.due("x", d.x.lots(0), 1);
        d.due("y", d.x.lots(1), 1);
        d.due("2", d.x.lots(2), NONE);
        d.due("-1", d.x.lots(-1), NONE);
        d.x.shut(0, true);
        d.x.shut(2, true);
        d.due("no route", d.x.lots(0), 0);
        d.tell("corner a parish 1;" + many("saint #q at a pace 1 loud 0 petals 0;", 4));
        d.due("nobody is out: all orders", d.x.lots(3), 24);
        d.tell("corner a parish 1; corner b parish 2; lane a b long 1 walls 9;" + many("saint #q at a pace 1 loud 0 petals 0;", 3));
        d.due("the first alone", d.x.lots(2), 2);
    }

    private static void dawn() {
        Desk d = night(36);
        d.due("3 10 0", d.x.dawn(3, 10, 0), 10);
        d.due("3 10 1", d.x.dawn(3, 10, 1), 3);
        d.due("3 10 2", d.x.dawn(3, 10, 2), 0);
        d.due("0 10 0", d.x.dawn(0, 10, 0), 9);
        d.due("0 10 1", d.x.dawn(0, 10, 1), 0);
        d.due("0 0 0", d.x.dawn(0, 0, 0), 49);
        d.due("2 10 0", d.x.dawn(2, 10, 0), 3);
        d.due("2 10 1", d.x.dawn(2, 10, 1), 3);
        for (int what = 0; what < 3; what++) {
            d.due("1 999 " + what, d.x.dawn(1, 999, what), 0);
        }
        d.due("what 3", d.x.dawn(0, 0, 3), NONE);
        d.due("what -1", d.x.dawn(0, 0, -1), NONE);
        d.due("minute 1000", d.x.dawn(0, 1000, 0), NONE);
        d.due("minute -1", d.x.dawn(0, -1, 0), NONE);
        d.due("lanes 16", d.x.dawn(16, 0, 0), NONE);
        d.due("lanes -1", d.x.dawn(-1, 0, 0), NONE);
        d.x.shut(0, true);
        d.x.shut(2, true);
        d.due("no options", d.x.dawn(0, 10, 0), 1);
        d.due("both without", d.x.dawn(0, 10, 2), 3);
        d.due("no nights", d.x.dawn(1, 10, 2), 0);
        d.tell("corner a parish 1;" + many("saint #q at a pace 1 loud 0 petals 0;", 3));
        d.due("an option of no steps is one", d.x.dawn(0, 5, 0), 64);
        d.tell("corner a parish 1;" + many("saint #q at a pace 1 loud 0 petals 0;", 4));
        d.due("four saints", d.x.dawn(0, 5, 0), NONE);
    }

    private static void image() {
        Desk d = night(37);
        d.due("no steps", d.x.image(), 6);
        d.x.go(0, 1);
        d.x.rest(1, 3);
        d.x.shut(2, true);
        d.x.but(1);
        d.due("image", d.x.image(), 8);
        int[] due = {1, 1, 1, 103, 0, 4, 1, 118};
        for (int k = 0; k < due.length; k++) {
            d.due("octet " + k, d.x.octet(k), due[k]);
        }
        StringBuilder lanes = new StringBuilder(many("corner #q parish 1;", 10));
        for (int i = 0; i < 10; i++) {
            lanes.append("lane ").append((char) ('b' + i)).append("q ").append((char) ('b' + (i + 1) % 10))
                    .append("q long 1 walls 1;");
        }
        d.tell(lanes.toString());
        d.x.shut(9, true);
        d.x.shut(0, true);
        d.x.image();
        d.due("the higher first", d.x.octet(0), 2);
        d.due("the lower", d.x.octet(1), 1);
        d.tell("corner a parish 1;" + many("saint #q at a pace 1 loud 0 petals 0;", 4));
        for (int i = 0; i < 96; i++) {
            d.x.rest(i % 4, 30);
        }
        d.due("the longest", d.x.image(), 104);
        d.due("of the last saint", d.x.octet(99), 130);
        d.due("sum", d.x.octet(103) != NONE, true);
        d.due("behind", d.x.octet(104), NONE);
        d.due("it comes back", d.backWith(NONE, 0), true);
    }

    private static void octet() {
        Desk d = night(38);
        d.due("ahead of any", d.x.octet(0), NONE);
        d.x.image();
        d.due("-1", d.x.octet(-1), NONE);
        d.due("6", d.x.octet(6), NONE);
        d.due("0", d.x.octet(0), 0);
        d.x.go(0, 1);
        d.due("of the latest image", d.x.octet(0), 0);
        d.x.image();
        d.due("of a new one", d.x.octet(0), 1);
        d.due("7", d.x.octet(7), NONE);
        d.due("6", d.x.octet(6) != NONE, true);
    }

    private static void back() {
        Desk d = night(39);
        d.due("an empty tape", d.x.back(), false);
        d.x.go(0, 1);
        d.x.rest(1, 3);
        d.x.shut(2, true);
        d.x.but(1);
        d.due("as it is", d.backWith(NONE, 0), true);
        d.due("the tape has gone", d.x.end(1), false);
        d.due("nothing can be undone", d.x.has(9), 0);
        d.due("another corner", d.backWith(1, 3), true);
        d.due("by a lane that is shut", d.x.where(0, 2), 3);
        d.due("itself", d.backWith(1, 0), false);
        d.due("the tape has gone", d.x.end(1), false);
        d.due("no lane", d.backWith(1, 2), false);
        d.due("no corner", d.backWith(1, 4), false);
        d.due("a rest of 0", d.backWith(3, 100), false);
        d.due("a rest of 31", d.backWith(3, 131), false);
        d.due("a rest of 30", d.backWith(3, 130), true);
        d.due("rests", d.x.saint(1, 5), 30);
        d.due("lane 4", d.backWith(5, 16), false);
        d.due("lane 8", d.backWith(4, 1), false);
        d.due("lanes 0 to 3", d.backWith(5, 15), true);
        d.due("shut", d.x.has(7), 4);
        d.due("exception 2", d.backWith(6, 4), false);
        d.due("exceptions", d.backWith(6, 3), true);
        d.due("on", d.x.has(8), 3);
        d.due("another sum", d.backWith(7, 0), false);
        d.due("all stays", d.x.has(8), 3);
        d.due("fewer steps than told", d.backWith(0, 9), false);
        d.x.image();
        d.tape(0, 0, 0, 0, 0, 95);
        d.due("another image", d.x.back(), sumOfZeros(5) == 95);
        d.tape(0, 0, 0, 0, 0, sumOfZeros(5));
        d.due("no steps", d.x.back(), true);
        d.due("steps", d.x.saint(0, 4), 0);
        d.tape(0, 0, 0, 0, 0, sumOfZeros(5), 0);
        d.due("a byte more", d.x.back(), false);
        d.tape(0, 0, 0, 0, sumOfZeros(4));
        d.due("a byte less", d.x.back(), false);
        tooLong(d);
    }

    private static int sumOfZeros(int count) {
        int sum = 83;
        for (int i = 0; i < count; i++) {
            sum = 3 * sum % 247;
        }
        return sum;
    }

    private static void tooLong(Desk d) {
        d.tell("corner a parish 1; corner b parish 1; lane a b long 9 walls 0; saint s at a pace 5 loud 0 petals 0;");
        for (int i = 1; i <= 22; i++) {
            d.x.go(0, i % 2);
        }
        d.x.rest(0, 9);
        d.due("999", d.backWith(NONE, 0), true);
        d.due("1000", d.backWith(23, 110), false);
        d.x.clear(0);
        for (int i = 1; i <= 24; i++) {
            d.x.rest(0, 1);
        }
        d.due("24 steps", d.backWith(NONE, 0), true);
        int[] bytes = new int[30];
        bytes[0] = 25;
        int sum = (3 * 83 + 25) % 247;
        for (int k = 1; k <= 28; k++) {
            bytes[k] = k <= 25 ? 101 : 0;
            sum = (3 * sum + bytes[k]) % 247;
        }
        bytes[29] = sum;
        d.x.end(0);
        d.tape(bytes);
        d.due("25 steps", d.x.back(), false);
    }

    public static void main(String[] args) {
        newObject();
        feed();
        end();
        city();
        fault();
        has();
        letter();
        lane();
        sound();
        saint();
        go();
        rest();
        clear();
        undo();
        where();
        on();
        petals();
        passes();
        clash();
        exceptions();
        exceptionsByMinute();
        exceptionsOfPetals();
        clashes();
        meet();
        pleased();
        but();
        words();
        softer();
        shut();
        sweep();
        routes();
        route();
        together();
        bars();
        take();
        mend();
        turn();
        lots();
        dawn();
        image();
        octet();
        back();
        System.exit(Desk.wrong == 0 ? 0 : 1);
    }
}
