/** The edges that the document names of a text, and of promises 1 to 10. */
final class TextEdges {
    private static final int NONE = NineSaints.NONE;
    private static final String AB = "corner a parish 1; corner b parish 2;";
    private static final String ABC = AB + "corner c parish 3;";
    private static final String LANE = AB + "lane a b long 2 walls 3;";
    private static final String[] OWN = ("corner parish lane long walls saint at pace loud petals balcony from to worth "
            + "but rain or and not all minute sort far first second min max").split(" ");

    private TextEdges() {
    }

    static void run() {
        statements();
        corners();
        lanes();
        saints();
        balconies();
        exceptionsAndRain();
        names();
        ownWords();
        testsAndFacts();
        sums();
        parts();
        factsOfAClash();
        arithmetic();
        blanks();
        firstFault();
        faultOne();
        faultsOfWholeWords();
        faultsTwoAndThree();
        faultFour();
        faultFive();
        tape();
        cityCall();
        faultCall();
        hasCall();
        letterCall();
        laneAndSoundCalls();
        saintCall();
    }

    static String many(int times, String one) {
        StringBuilder text = new StringBuilder();
        for (int i = 0; i < times; i++) {
            text.append(one.replace('#', (char) ('a' + i)));
        }
        return text.toString();
    }

    private static String tenCorners() {
        return many(10, "corner # parish 1;");
    }

    static String sixteenLanes() {
        return tenCorners() + many(9, "lane j # long 1 walls 1;") + many(7, "lane i # long 1 walls 1;");
    }

    private static void statements() {
        Sentence s = new Sentence(4, "A CITY is a text: { STATEMENT ; } (70 at most)");
        s.good("", 0);
        s.good(" \n ", 0);
        s.good("rain 1;", 1);
        s.good("rain 1;rain 2;", 2);
        s.good(many(69, "rain 1;"), 69);
        s.good(many(70, "rain 1;"), 70);
        s.faulty(5, many(70, "rain 1;") + "^rain 1;");
        s.faulty(1, "rain 1^");
        s.faulty(1, "rain 1 ^rain 2;");
        s.faulty(1, "^;");
    }

    private static void corners() {
        Sentence s = new Sentence(4, "corner NAME parish N (1 .. 9; 10 CORNERS)");
        s.faulty(2, "corner a parish ^0;");
        s.good("corner a parish 1;", 1);
        s.good("corner a parish 9;", 1);
        s.faulty(2, "corner a parish ^10;");
        s.good(many(9, "corner # parish 1;"), 9);
        Desk d = s.city(tenCorners());
        d.due("has(0)", d.x.has(0), 10);
        d.due("letter of the last", d.x.letter(0, 9, 0), 10);
        s.faulty(5, tenCorners() + "^corner k parish 1;");
    }

    private static void lanes() {
        Sentence s = new Sentence(4, "lane NAME NAME long N walls N (two unlike CORNERS between which there is none yet, "
                + "1 .. 9, 0 .. 9; 16 LANES)");
        s.faulty(3, AB + "lane a ^a long 1 walls 0;");
        s.faulty(3, LANE + "lane a ^b long 1 walls 0;");
        s.faulty(3, LANE + "lane b ^a long 1 walls 0;");
        s.good(ABC + "lane a b long 1 walls 0; lane b c long 1 walls 0; lane c a long 1 walls 0;", 6);
        s.faulty(2, AB + "lane a b long ^0 walls 0;");
        s.good(AB + "lane a b long 1 walls 0;", 3);
        s.good(AB + "lane a b long 9 walls 9;", 3);
        s.faulty(2, AB + "lane a b long ^10 walls 0;");
        s.faulty(2, AB + "lane a b long 1 walls ^10;");
        Desk d = s.city(sixteenLanes());
        d.due("has(1)", d.x.has(1), 16);
        d.due("a corner of the last", d.x.lane(15, 0), 8);
        d.due("a corner of the last", d.x.lane(15, 1), 6);
        s.faulty(5, sixteenLanes() + "^lane i h long 1 walls 1;");
    }

    private static void saints() {
        Sentence s = new Sentence(4, "saint NAME at NAME pace N loud N petals N (a CORNER, 1 .. 5, 0 .. 20, 0 .. 99; 4 SAINTS)");
        s.faulty(3, AB + "saint s at ^c pace 1 loud 0 petals 0;");
        s.faulty(3, AB + "saint s at ^s pace 1 loud 0 petals 0;");
        s.faulty(2, AB + "saint s at a pace ^0 loud 0 petals 0;");
        s.good(AB + "saint s at a pace 1 loud 0 petals 0;", 3);
        s.good(AB + "saint s at b pace 5 loud 20 petals 99;", 3);
        s.faulty(2, AB + "saint s at a pace ^6 loud 0 petals 0;");
        s.faulty(2, AB + "saint s at a pace 1 loud ^21 petals 0;");
        s.faulty(2, AB + "saint s at a pace 1 loud 0 petals ^100;");
        String four = "corner q parish 1;" + many(4, "saint # at q pace 1 loud 0 petals 0;");
        Desk d = s.city(four);
        d.due("has(2)", d.x.has(2), 4);
        d.due("letter of the last", d.x.letter(1, 3, 0), 4);
        s.faulty(5, four + "^saint e at q pace 1 loud 0 petals 0;");
    }

    private static void balconies() {
        Sentence s = new Sentence(4, "balcony at NAME from N to N worth N (a CORNER, minutes 0 .. 999, the second not below "
                + "the first, 1 .. 99; 10 BALCONIES)");
        s.faulty(3, AB + "balcony at ^c from 0 to 0 worth 1;");
        s.faulty(3, AB + "saint s at a pace 1 loud 0 petals 0; balcony at ^s from 0 to 0 worth 1;");
        s.good(AB + "balcony at b from 0 to 0 worth 1;", 3);
        s.good(AB + "balcony at a from 999 to 999 worth 99;", 3);
        s.good(AB + "balcony at a from 0 to 999 worth 99;", 3);
        s.faulty(2, AB + "balcony at a from ^1000 to 1000 worth 1;");
        s.faulty(2, AB + "balcony at a from 0 to ^1000 worth 1;");
        s.faulty(2, AB + "balcony at a from 7 to ^6 worth 1;");
        s.good(AB + "balcony at a from 7 to 7 worth 1;", 3);
        s.faulty(2, AB + "balcony at a from 0 to 0 worth ^0;");
        s.faulty(2, AB + "balcony at a from 0 to 0 worth ^100;");
        String ten = AB + many(10, "balcony at a from 0 to 0 worth 1;");
        Desk d = s.city(ten);
        d.due("has(3)", d.x.has(3), 10);
        s.faulty(5, ten + "^balcony at a from 0 to 0 worth 1;");
    }

    private static void exceptionsAndRain() {
        Sentence s = new Sentence(4, "but TEST (6 EXCEPTIONS)");
        s.faulty(1, "but ^;");
        Desk d = s.city(many(6, "but all;"));
        d.due("has(4)", d.x.has(4), 6);
        d.due("words of the last", d.x.words(5), 1);
        s.faulty(5, many(6, "but all;") + "^but all;");
        s = new Sentence(4, "rain N (0 .. 999; the last one counts; never without).");
        d = s.city("rain 0;");
        d.due("has(5)", d.x.has(5), 0);
        d = s.city("rain 999;");
        d.due("has(5)", d.x.has(5), 999);
        s.faulty(2, "rain ^1000;");
        d = s.city("rain 30; rain 999; rain 4;");
        d.due("has(5)", d.x.has(5), 4);
        d = s.city(AB);
        d.due("has(5) without", d.x.has(5), NONE);
        d = s.city("rain 8;");
        d.tell(AB);
        d.due("has(5) without, behind a city with rain", d.x.has(5), NONE);
    }

    private static void names() {
        Sentence s = new Sentence(5, "NAMES: 1 to 6 letters, no OWN WORD, unlike ones (CORNERS, SAINTS), told ahead of where "
                + "they are asked.");
        s.faulty(1, "corner ^parish 1;");
        s.good("corner a parish 1;", 1);
        s.good("corner abcdef parish 1;", 1);
        s.faulty(1, "corner abcdef^g parish 1;");
        s.good("corner azazaz parish 1;", 1);
        s.faulty(1, "corner ^Ab parish 1;");
        s.faulty(1, "corner a^B parish 1;");
        s.faulty(1, "corner ^` parish 1;");
        s.faulty(1, "corner ^{ parish 1;");
        s.faulty(1, "corner ^1 parish 1;");
        s.faulty(1, "corner ^rain parish 1;");
        s.faulty(3, "corner a parish 1; corner ^a parish 1;");
        s.faulty(3, "corner a parish 1; saint ^a at a pace 1 loud 0 petals 0;");
        s.faulty(3, "corner a parish 1; saint s at a pace 1 loud 0 petals 0; corner ^s parish 1;");
        s.faulty(3, "corner a parish 1; saint s at a pace 1 loud 0 petals 0; saint ^s at a pace 1 loud 0 petals 0;");
        s.good("corner a parish 1; corner aa parish 1; corner aaaaaa parish 1; corner aaaaab parish 1; corner b parish 1;", 5);
        s.faulty(3, "saint s at ^a pace 1 loud 0 petals 0; corner a parish 1;");
        s.faulty(3, "corner a parish 1; lane a ^b long 1 walls 1; corner b parish 1;");
        s.faulty(3, "balcony at ^a from 0 to 0 worth 1; corner a parish 1;");
    }

    private static void ownWords() {
        Sentence s = new Sentence(5, "OWN WORDS: corner, parish, lane, long, walls, saint, at, pace, loud, petals, balcony, from, "
                + "to, worth, but, rain, or, and, not, all, minute, sort, far, first, second, min, max.");
        for (String own : OWN) {
            s.faulty(1, "corner ^" + own + " parish 1;");
            s.faulty(1, "corner a parish 1; saint ^" + own + " at a pace 1 loud 0 petals 0;");
            s.faulty(1, "corner a parish 1; lane a ^" + own + " long 1 walls 1;");
            String shorter = own.substring(0, own.length() - 1);
            s.good("corner " + shorter + " parish 1;", 1);
            if (own.length() < 6) {
                s.good("corner " + own + "x parish 1;", 1);
            }
        }
    }

    /** Two of three saints are out and drum at a sound of 2, in minutes 0 and 1; a test holds if nothing is left. */
    private static void holds(Sentence s, String test, boolean does) {
        Desk d = s.city("corner a parish 1; corner b parish 1; lane a b long 3 walls 2; saint s at a pace 1 loud 0 petals 0;"
                + "saint t at a pace 1 loud 5 petals 0; saint u at b pace 1 loud 0 petals 0; but " + test + ";");
        d.x.rest(1, 1);
        d.x.rest(2, 1);
        d.x.but(1);
        d.due("clash(0) but " + test, d.x.clash(0), does ? NONE : 0);
    }

    private static void testsAndFacts() {
        Sentence s = new Sentence(19, "TEST: BOTH { or BOTH }.");
        holds(s, "all", true);
        holds(s, "not all", false);
        holds(s, "not all or all", true);
        holds(s, "all or not all", true);
        holds(s, "not all or not all", false);
        holds(s, "not all or not all or all", true);
        holds(s, "all or all and not all", true);
        s.faulty(1, "but all or^;");
        s.faulty(1, "but ^or all;");
        s = new Sentence(19, "BOTH: FACT { and FACT }.");
        holds(s, "all and all", true);
        holds(s, "all and not all", false);
        holds(s, "not all and all", false);
        holds(s, "all and all and not all", false);
        holds(s, "not all and not all or all", true);
        s.faulty(1, "but all and^;");
        s.faulty(1, "but all and ^or all;");
        s = new Sentence(19, "FACT: not FACT; [ TEST ] ; all; SUM SIGN SUM, SIGN < or > or = .");
        holds(s, "not not all", true);
        holds(s, "not 1 = 2 and 2 = 1", false);
        holds(s, "[all or all] and not all", false);
        holds(s, "not [all and not all]", true);
        holds(s, "all or [not all and not all]", true);
        holds(s, "not all and [all or all]", false);
        holds(s, "1 < 2", true);
        holds(s, "2 < 2", false);
        holds(s, "2 > 1", true);
        holds(s, "2 > 2", false);
        holds(s, "2 = 2", true);
        holds(s, "1 = 2", false);
        holds(s, "2 = 1", false);
        s.faulty(1, "but [^];");
        s.faulty(1, "but [all^;");
        s.faulty(1, "but [all^);");
        s.faulty(1, "but not^;");
        s.faulty(1, "but all ^= 1;");
        s.faulty(1, "but 1^;");
        s.faulty(1, "but 1 <^;");
        s.faulty(1, "but 1 <^= 2;");
        s.faulty(1, "but 1 < 2 ^< 3;");
        s.faulty(1, "but (^all);");
        s.faulty(1, "but all^];");
    }

    private static void sums() {
        Sentence s = new Sentence(19, "SUM: PRODUCT { + or - PRODUCT }.");
        holds(s, "1 + 2 = 3", true);
        holds(s, "7 - 2 = 5", true);
        holds(s, "7 - 2 + 1 = 6", true);
        holds(s, "1 = 3 - 2", true);
        s.faulty(1, "but ^- 1 < 2;");
        s.faulty(1, "but 1 + ^+ 2 < 3;");
        s.faulty(1, "but 1 - ^< 2;");
        s = new Sentence(19, "PRODUCT: PART { * or / PART }.");
        holds(s, "2 * 3 = 6", true);
        holds(s, "6 / 3 = 2", true);
        holds(s, "1 + 2 * 3 = 7", true);
        holds(s, "2 * 3 + 1 = 7", true);
        holds(s, "7 - 6 / 2 = 4", true);
        holds(s, "2 * 3 - 8 / 4 + 1 = 5", true);
        s.faulty(1, "but 2 * ^* 3 < 7;");
        s.faulty(1, "but 2 / ^> 1;");
    }

    private static void parts() {
        Sentence s = new Sentence(19, "PART: N (1 to 4 digits); minute; sort; far; first; second; ( SUM ) ; min ( SUM , SUM ) ; "
                + "max ( SUM , SUM ) .");
        holds(s, "0 < 1", true);
        holds(s, "9 + 1 = 10", true);
        holds(s, "9999 - 9998 = 1", true);
        holds(s, "0000 = 0", true);
        holds(s, "0012 = 12", true);
        s.faulty(1, "but 9999^9 > 1;");
        s.faulty(1, "but 0000^0 = 0;");
        holds(s, "minute < 2 and sort < 1 and far = 2 and first = 1 and second = 2", true);
        holds(s, "2 * (3 + 1) = 8", true);
        holds(s, "7 - (2 + 1) = 4", true);
        holds(s, "min(2, 3) = 2 and min(3, 2) = 2 and min(2, 2) = 2 and min(0 - 1, 0) + 1 = 0", true);
        holds(s, "max(2, 3) = 3 and max(3, 2) = 3 and max(2, 2) = 2 and max(0 - 1, 0) = 0", true);
        holds(s, "2 * min(1 + 1, 9) = max(min(4, 5), 3)", true);
        s.faulty(1, "but (^) < 1;");
        s.faulty(1, "but (1^;");
        s.faulty(1, "but min ^1 , 2 < 1;");
        s.faulty(1, "but min(1^) < 2;");
        s.faulty(1, "but max(1,2^,3) < 2;");
        s.faulty(1, "but max(^,2) < 2;");
        s.faulty(1, "but ^x < 1;");
        s.faulty(1, "but ^pace < 1;");
    }

    private static void factsOfAClash() {
        Sentence s = new Sentence(19, "(Of a CLASH: its minute; 0 of drums, 1 of petals; SOUND of both places, 0 of petals; the "
                + "numbers of both SAINTS, the lesser first.)");
        holds(s, "minute = 0 or minute = 1", true);
        holds(s, "minute = 1 or minute > 1", false);
        holds(s, "sort = 0", true);
        holds(s, "sort = 1", false);
        holds(s, "far = 2", true);
        holds(s, "far = 0", false);
        holds(s, "first = 1", true);
        holds(s, "second = 2", true);
        // y goes in minutes 4, 5 by petals of x; in minute 5 a sound of 3 is between them, which petals do not ask for.
        String night = ABC + "lane a b long 2 walls 3; lane b c long 3 walls 4;"
                + "saint x at a pace 2 loud 0 petals 5; saint y at c pace 1 loud 0 petals 9; but sort = 0; but ";
        String[] holding = {"sort = 1", "far = 0", "minute = 4 or minute = 5", "first = 0 and second = 1"};
        String[] others = {"sort = 0", "far > 0", "minute < 4", "first = 1", "second = 0"};
        for (String test : holding) {
            Desk d = crossing(s.city(night + test + ";"));
            d.due("clash(0) of petals but " + test, d.x.clash(0), NONE);
        }
        for (String test : others) {
            Desk d = crossing(s.city(night + test + ";"));
            d.due("clash(0) of petals but " + test, d.x.clash(0), 4);
            d.due("clash(1) of petals but " + test, d.x.clash(1), 1);
        }
    }

    private static Desk crossing(Desk d) {
        d.x.go(0, 1);
        d.x.go(1, 1);
        d.x.go(1, 0);
        d.x.but(3);
        return d;
    }

    private static void arithmetic() {
        Sentence s = new Sentence(19, "All from the left on;");
        holds(s, "8 - 4 - 2 = 2", true);
        holds(s, "8 - 4 + 2 = 6", true);
        holds(s, "16 / 4 / 2 = 2", true);
        holds(s, "7 / 2 * 2 = 6", true);
        holds(s, "2 * 7 / 2 = 7", true);
        holds(s, "1000 * 1000 + 5 - 5 < 1000 * 1000", true);
        holds(s, "5 - 5 + 1000 * 1000 = 1000 * 1000", true);
        s = new Sentence(19, "/ gives the greatest whole number not above, by 0 it gives 0;");
        holds(s, "7 / 2 = 3 and 6 / 2 = 3 and 1 / 2 = 0 and 0 / 2 = 0", true);
        holds(s, "(0 - 7) / 2 = 0 - 4 and (0 - 6) / 2 = 0 - 3 and (0 - 1) / 2 = 0 - 1", true);
        holds(s, "7 / (0 - 2) = 0 - 4 and 6 / (0 - 2) = 0 - 3 and 1 / (0 - 2) = 0 - 1", true);
        holds(s, "(0 - 7) / (0 - 2) = 3 and (0 - 1) / (0 - 2) = 0", true);
        holds(s, "5 / 0 = 0 and (0 - 5) / 0 = 0 and 0 / 0 = 0", true);
        s = new Sentence(19, "each sum, difference, product above 10 to the 6 is that, below -10 to the 6 likewise.");
        holds(s, "999 * 1001 + 1 = 1000 * 1000 and 999 * 1001 < 1000 * 1000", true);
        holds(s, "999 * 1001 + 2 = 1000 * 1000", true);
        holds(s, "1000 * 1000 - (0 - 1) = 1000 * 1000", true);
        holds(s, "1000 * 1001 = 1000 * 1000 and 9999 * 9999 - 1 = 999 * 1001", true);
        holds(s, "(0 - 9999) * (0 - 9999) = 1000 * 1000", true);
        holds(s, "0 - 999 * 1001 > 0 - 1000 * 1000 and 0 - 999 * 1001 - 1 = 0 - 1000 * 1000", true);
        holds(s, "0 - 999 * 1001 - 2 = 0 - 1000 * 1000", true);
        holds(s, "0 - 1000 * 1000 + (0 - 1) = 0 - 1000 * 1000", true);
        holds(s, "(0 - 1000) * 1001 = 0 - 1000 * 1000 and (0 - 9999) * 9999 + 1 = 0 - 999 * 1001", true);
    }

    private static void blanks() {
        Sentence s = new Sentence(5, "Blanks (10, 32) are where one likes (words and numbers side by side need one).");
        s.good("corner\na\nparish\n1\n;\n", 1);
        s.good(" \n corner  a \n\n parish   1 ; \n", 1);
        s.good("rain 1;rain 2;but[all]and(1)<(2)or not[1=2];", 3);
        s.good("but min ( 1 , 2 ) < 3 ; but max(1,2)<3;", 2);
        int[] none = {0, 9, 11, 12, 13, 31, 33, 127, 128, 160, 255};
        for (int sign : none) {
            s.faulty(1, "rain^" + (char) sign + "1;");
            s.faulty(1, "rain 1^" + (char) sign + ";");
            s.faulty(1, "^" + (char) sign);
        }
        s.faulty(1, "rain^5;");
        s.faulty(1, "corner a parish^1;");
        s.faulty(1, "corner a^1 parish 1;");
        s.faulty(1, AB + "lane a b long 1^walls 1;");
        s.faulty(1, "but 1<2^or all;");
        s.faulty(1, "but 1<2^and all;");
        s.faulty(1, "but not^1<2;");
        s.faulty(1, "but all or^1<2;");
        s.faulty(1, "but 1^minute<2;");
        s.faulty(1, "but^1<2;");
        s.faulty(1, "^cornera parish 1;");
        s.faulty(1, "corner aparis^h 1;");
        s.faulty(1, "but ^notall;");
    }

    private static void firstFault() {
        Sentence s = new Sentence(5, "FAULTS, the first along the text:");
        s.faulty(2, "corner a parish ^0; corner a parish 1; corner at");
        s.faulty(3, "corner a parish 1; corner ^a parish 0; corner at");
        s.faulty(1, "corner ^at parish 0; corner a parish 0;");
        s.faulty(2, "rain ^1000 rain;");
        s.faulty(4, "but [[[[[[^[ 12345 ;");
        s.faulty(5, many(6, "but all;") + "^but 12345 corner;");
        s.faulty(3, many(5, "but all;") + "lane ^a a; but all; but all;");
    }

    private static void faultOne() {
        Sentence s = new Sentence(5, "1 the first byte with which no such text goes on");
        s.faulty(1, "^;");
        s.faulty(1, "^x;");
        s.faulty(1, "^1;");
        s.faulty(1, "^a parish 1;");
        s.faulty(1, "rain 1;^;");
        s.faulty(1, "rain 1^,");
        s.faulty(1, "rain ^;");
        s.faulty(1, "rain ^-1;");
        s.faulty(1, "corner a^;");
        s.faulty(1, "corner a parish 1^.5;");
        s.faulty(1, AB + "lane a^, b long 1 walls 1;");
        s.faulty(1, AB + "lane a b ^walls 1 long 1;");
        s.faulty(1, AB + "saint s ^pace 1 at a loud 0 petals 0;");
        s.faulty(1, AB + "saint s at a pace 1 ^petals 0;");
        s.faulty(1, AB + "saint s at a pace 1 loud 1^;");
        s.faulty(1, AB + "balcony ^a from 0 to 0 worth 1;");
        s.faulty(1, AB + "balcony at a from 0 ^worth 1;");
        s.faulty(1, AB + "balcony at a from 0 to 1^;");
        s.faulty(1, "but all ^but all;");
        s.faulty(1, "^" + many(1600, ";"));
        s.faulty(1, "rain ^" + many(1595, "("));
        s = new Sentence(5, "at the text's length, if it ends too soon)");
        s.faulty(1, "corner^");
        s.faulty(1, "corner \n ^");
        s.faulty(1, "corner a^");
        s.faulty(1, "corner a parish^");
        s.faulty(1, "corner a parish 1^");
        s.faulty(1, "corner a parish 1 ^");
        s.faulty(1, "rain 1; but^");
        s.faulty(1, "but not^");
        s.faulty(1, "but [all^");
        s.faulty(1, "but 1 <^");
        s.faulty(1, "but min(1, ^");
        s.faulty(1, many(1594, " ") + "corner^");
    }

    private static void faultsOfWholeWords() {
        Sentence s = new Sentence(5, "(words and numbers whole, at their first byte;");
        s.faulty(1, "^corne a parish 1;");
        s.faulty(1, "^corners a parish 1;");
        s.faulty(1, "^Corner a parish 1;");
        s.faulty(1, "corner a ^parishes 1;");
        s.faulty(1, "corner a ^pari");
        s.faulty(1, "corner a ^parking 1;");
        s.faulty(1, "corner a parish ^one;");
        s.faulty(1, "corner a parish 1 ^234567;");
        s.faulty(1, "corner ^1234567 parish 1;");
        s.faulty(1, "but ^minutes < 1;");
        s.faulty(1, "but all ^andy;");
        s.faulty(1, "but all ^12345;");
        s = new Sentence(5, "where a NAME is asked, an OWN WORD so, a 7th letter at itself;");
        s.faulty(1, "corner ^at parish 1;");
        s.faulty(1, "corner ^balcony parish 1;");
        s.faulty(1, "corner balcon^yx parish 1;");
        s.faulty(1, "corner abcdef^g parish 1;");
        s.faulty(1, "corner abcdef^ghijkl parish 1;");
        s.faulty(1, AB + "saint abcdef^g at a pace 1 loud 0 petals 0;");
        s.faulty(1, AB + "saint s at ^at pace 1 loud 0 petals 0;");
        s.faulty(1, AB + "saint s at abcdef^g pace 1 loud 0 petals 0;");
        s.faulty(1, AB + "lane ^long a long 1 walls 1;");
        s.faulty(1, AB + "lane abcdef^g a long 1 walls 1;");
        s.faulty(1, AB + "lane a ^long 1 walls 1;");
        s.faulty(1, AB + "lane a abcdef^g long 1 walls 1;");
        s.faulty(1, AB + "balcony at ^from 0 to 0 worth 1;");
        s.faulty(1, AB + "balcony at abcdef^g from 0 to 0 worth 1;");
        s = new Sentence(5, "where a number is asked, a 5th digit at itself;");
        s.faulty(1, "rain 0000^1;");
        s.faulty(1, "rain 1234^567;");
        s.faulty(1, "corner a parish 0000^1;");
        s.faulty(1, AB + "lane a b long 0001^1 walls 1;");
        s.faulty(1, AB + "lane a b long 1 walls 0001^1;");
        s.faulty(1, AB + "saint s at a pace 0001^1");
        s.faulty(1, AB + "saint s at a pace 1 loud 0000^0 petals 1;");
        s.faulty(1, AB + "balcony at a from 0 to 0000^9 worth 1;");
        s.faulty(1, "but 1 < 1000^0;");
        s.good("rain 0001; rain 0999;", 2);
    }

    private static void faultsTwoAndThree() {
        Sentence s = new Sentence(5, "2 a number that can't be, at it;");
        s.faulty(2, "rain ^1000;");
        s.faulty(2, "rain \n ^9999;");
        s.faulty(2, "corner a parish ^0");
        s.faulty(2, "corner a parish ^0000;");
        s.faulty(2, "corner a parish ^0010;");
        s.good("corner a parish 0009;", 1);
        s.faulty(2, AB + "balcony at a from 0999 to ^0998 worth 1;");
        s = new Sentence(5, "3 a NAME to be given that is there already, one that is none of what is asked, of lane the first "
                + "CORNER again, or one to which there is a LANE from the first already, at it;");
        s.faulty(3, "corner abcdef parish 1; corner ^abcdef");
        s.faulty(3, AB + "saint ^b at a");
        s.faulty(3, AB + "saint s at a pace 1 loud 0 petals 0; saint ^s");
        s.faulty(3, AB + "saint s at ^abcdef");
        s.faulty(3, AB + "saint s at a pace 1 loud 0 petals 0; saint t at ^s");
        s.faulty(3, AB + "saint s at a pace 1 loud 0 petals 0; lane ^s a");
        s.faulty(3, AB + "saint s at a pace 1 loud 0 petals 0; lane a ^s");
        s.faulty(3, AB + "lane ^c a");
        s.faulty(3, AB + "lane a ^c");
        s.faulty(3, AB + "lane b ^b");
        s.faulty(3, LANE + "lane a ^b");
        s.faulty(3, LANE + "lane b ^a");
        s.faulty(3, AB + "balcony at ^c");
    }

    private static void faultFour() {
        Sentence s = new Sentence(5, "4 the 7th ( [ not that is open at once (not until its FACT ends), at it;");
        s.good("but not not not not not not all;", 1);
        s.faulty(4, "but not not not not not not ^not all;");
        s.good("but [[[[[[all]]]]]];", 1);
        s.faulty(4, "but [[[[[[^[all]]]]]]];");
        s.good("but ((((((1)))))) < 2;", 1);
        s.faulty(4, "but ((((((^(1))))))) < 2;");
        s.faulty(4, "but 2 > ((((((^(1)))))));");
        s.good("but min(min(min(min(min(min(1, 2), 2), 2), 2), 2), 2) < 2;", 1);
        s.faulty(4, "but min(min(min(min(min(min(max^(1, 2), 2), 2), 2), 2), 2), 2) < 2;");
        s.faulty(4, "but min(2, min(2, min(2, min(2, min(2, min(2, min^(1, 2))))))) < 2;");
        s.good("but not [not [((1)) < 2]];", 1);
        s.faulty(4, "but not [not [((^(1))) < 2]];");
        s.faulty(4, "but [[[not not not ^[all]]]];");
        s.faulty(4, "but [[[[[(1) < 2 and (^(1)) < 2]]]]];");
        s.good("but [[[[[[all]]]]]] and [[[[[[all]]]]]] or ((((((1)))))) < ((((((2))))));", 1);
        s.good("but not not not not not not all and not not not not not not all;", 1);
        s.good("but [not not not not not all or not not not not not 1 < 2];", 1);
        s.faulty(4, "but not not not not not not 1 < ^(2);");
        s.faulty(4, "but not not not not not not 1 < min^(2, 3);");
        s.faulty(4, "but not not not not not [all and ^not all];");
    }

    private static void faultFive() {
        Sentence s = new Sentence(5, "5 one too many of a kind, a 71st STATEMENT (whatever stands there), at its first byte.");
        String four = "corner q parish 1;" + many(4, "saint # at q pace 1 loud 0 petals 0;");
        String ten = AB + many(10, "balcony at a from 0 to 0 worth 1;");
        String seventy = many(70, "rain 1;");
        s.faulty(5, tenCorners() + " ^corner");
        s.faulty(5, sixteenLanes() + " ^lane %");
        s.faulty(5, four + "\n^saint a;");
        s.faulty(5, ten + "^balcony 1;");
        s.faulty(5, many(6, "but all;") + "^but;");
        s.faulty(1, tenCorners() + "^corners");
        s.good(tenCorners() + many(60, "rain 1;"), 70);
        s.good(seventy + " \n", 70);
        String[] whatever = {"rain 1;", "rain", "corner", "x", ";", "%", "12345", "7", "["};
        for (String there : whatever) {
            s.faulty(5, seventy + "^" + there);
            s.faulty(5, seventy + " ^" + there);
        }
    }

    private static void tape() {
        Sentence s = new Sentence(1, "No CORNERS, no SAINTS.");
        Desk d = s.desk();
        for (int what = 0; what <= 9; what++) {
            d.due("has " + what, d.x.has(what), what == 5 ? NONE : 0);
        }
        d.due("letter", d.x.letter(0, 0, 0), NONE);
        d.due("saint", d.x.saint(0, 0), NONE);
        d.due("end 1 (no tape)", d.x.end(1), false);
        s = new Sentence(1, "The constants: `NONE = -1`: There is none; it is refused.");
        s.desk().due("NONE", NineSaints.NONE, -1);
        feed();
        s = new Sentence(3, "The tape has its first n bytes alone: true; false, doing nothing, if it has not so many, or n is "
                + "below 0.");
        d = s.desk();
        d.due("end 0 of none", d.x.end(0), true);
        d.due("end 1 of none", d.x.end(1), false);
        d.tape("rain 1;rain 2;rain 3".chars().toArray());
        d.due("end 21", d.x.end(21), false);
        d.due("end -1", d.x.end(-1), false);
        d.due("end of the least number", d.x.end(Integer.MIN_VALUE), false);
        d.due("end of the greatest number", d.x.end(Integer.MAX_VALUE), false);
        d.due("end 20 (nothing was done)", d.x.end(20), true);
        d.due("end 14", d.x.end(14), true);
        d.due("end 15", d.x.end(15), false);
        d.due("city", d.x.city(), 2);
        d.due("rain", d.x.has(5), 2);
        d.tape("rain 5;rain 6;      ".chars().toArray());
        d.due("end 0", d.x.end(0), true);
        d.due("feed behind none", d.x.feed(0, 0, 0, 0, 0), 20);
        String[] cut = {"corner abc parish 1", "2;", "corner abc parish", "es 1;", "corner a", "t parish 1;", "rain 1234", "5;"};
        for (int i = 0; i < cut.length; i += 2) {
            d.x.end(0);
            d.tape((cut[i] + cut[i + 1]).chars().toArray());
            d.due("end", d.x.end(cut[i].length()), true);
            d.due("city", d.x.city(), NONE);
            boolean rain = cut[i].startsWith("rain");
            d.due("fault(0) of " + cut[i], d.x.fault(0), rain ? 2 : 1);
            d.due("fault(1) of " + cut[i], d.x.fault(1), rain ? 5 : cut[i].length());
        }
    }

    private static void feed() {
        Sentence s = new Sentence(2, "Twenty bytes come behind those on the tape, of each number the highest first: how many there "
                + "are;");
        Desk d = s.desk();
        d.due("feed", d.x.feed(0x7261696e, 0x20373b72, 0x61696e20, 0x383b7261, 0x696e2039), 20);
        d.due("feed", d.x.feed(0x3b202020, 0x20202020, 0x20202020, 0x20202020, 0x20202020), 40);
        d.due("rain 7;rain 8;rain 9;", d.x.city(), 3);
        d.due("the last rain", d.x.has(5), 9);
        d.due("feed of high bytes", d.x.feed(0x20202020, 0x202020ff, -1, -1, -1), 20);
        d.due("city", d.x.city(), NONE);
        d.due("the place of the high byte", d.x.fault(1), 7);
        d.x.feed(0x3b202020, 0x20202020, 0x20202020, 0x20202020, 0x20202020);
        d.x.end(3);
        d.due("behind three", d.x.feed(0x3b202020, 0x20202020, 0x20202020, 0x20202020, 0x20202020), 23);
        s = new Sentence(2, "NONE, doing nothing, if there would be more than 1600.");
        d = s.desk();
        d.due("feed", d.x.feed(0x7261696e, 0x20373b20, 0x20202020, 0x20202020, 0x20202020), 20);
        for (int i = 2; i <= 80; i++) {
            d.due("feed " + i, d.x.feed(0x20202020, 0x20202020, 0x20202020, 0x20202020, 0x20202020), 20 * i);
        }
        d.due("feed 81", d.x.feed(-1, -1, -1, -1, -1), NONE);
        d.due("end 1601", d.x.end(1601), false);
        d.due("end 1581", d.x.end(1581), true);
        d.due("feed behind 1581", d.x.feed(-1, -1, -1, -1, -1), NONE);
        d.due("end 1582", d.x.end(1582), false);
        d.due("end 1580", d.x.end(1580), true);
        d.due("feed behind 1580", d.x.feed(0x20202020, 0x20202020, 0x20202020, 0x20202020, 0x20202020), 1600);
        d.due("city of what was there", d.x.city(), 1);
        d.due("rain", d.x.has(5), 7);
    }

    /** A city in which all is there that a new one makes go. */
    private static Desk busy(Sentence s) {
        Desk d = s.city(LANE + "saint s at a pace 1 loud 0 petals 9; balcony at a from 0 to 9 worth 5; but all; rain 50;");
        d.x.go(0, 1);
        d.x.shut(0, true);
        d.x.but(1);
        return d;
    }

    private static void cityCall() {
        Sentence s = new Sentence(4, "The tape (it goes) is THE CITY: how many STATEMENTS;");
        Desk d = s.city("rain 1; rain 2; rain 3;");
        d.due("the tape has gone", d.x.end(1), false);
        d.due("feed behind none", d.x.feed(0x20202020, 0x20202020, 0x20202020, 0x20202020, 0x20202020), 20);
        d.due("blanks", d.x.city(), 0);
        d.due("no tape", d.x.city(), 0);
        d.tell("rain 1; rain");
        d.due("the tape has gone with a fault, too", d.x.end(1), false);
        d.due("four", d.tell(AB + "rain 1; rain 2;"), 4);
        s = new Sentence(4, "NONE with a FAULT (all stays).");
        d = busy(s);
        String[] faulty = {"corner", "corner z parish 1; corner z", "rain 7; rain 1000;", "but all; lane a b long 5;", ";"};
        for (String text : faulty) {
            d.due("city of " + text, d.tell(text), NONE);
            int[] due = {2, 1, 1, 1, 1, 50, 2, 1, 1, 3};
            for (int what = 0; what <= 9; what++) {
                d.due("has " + what, d.x.has(what), due[what]);
            }
            d.due("letter", d.x.letter(0, 0, 0), 1);
            d.due("long", d.x.lane(0, 2), 2);
            d.due("sound", d.x.sound(0, 1), 3);
            d.due("steps", d.x.saint(0, 4), 1);
            d.due("words", d.x.words(0), 1);
            d.due("pleased", d.x.pleased(), 5);
        }
        d.due("undo", d.x.undo(), true);
        d.due("on", d.x.has(8), 0);
        s = new Sentence(4, "Without one no WAY has STEPS, no LANE is SHUT, no EXCEPTION ON, nothing can be undone.");
        d = busy(s);
        d.due("city", d.tell(LANE + "saint s at b pace 1 loud 0 petals 9; but all;"), 5);
        d.due("steps", d.x.saint(0, 4), 0);
        d.due("where", d.x.where(0, 5), 1);
        d.due("shut", d.x.has(7), 0);
        d.due("shut", d.x.lane(0, 4), 0);
        d.due("on", d.x.has(8), 0);
        d.due("acts", d.x.has(9), 0);
        d.due("undo", d.x.undo(), false);
        anotherCity(s);
        d = busy(s);
        d.due("city of none", d.tell(""), 0);
        for (int what = 0; what <= 9; what++) {
            d.due("has " + what, d.x.has(what), what == 5 ? NONE : 0);
        }
        d.due("undo", d.x.undo(), false);
    }

    /** What was found out of a city says nothing of the next one. */
    private static void anotherCity(Sentence s) {
        String twins = "corner a parish 1; saint s at a pace 1 loud 0 petals 0; saint t at a pace 1 loud 0 petals 0;";
        Desk d = s.city(twins + "saint u at a pace 1 loud 0 petals 0; saint v at a pace 1 loud 0 petals 0; but all; but 1 < 2;");
        d.x.rest(0, 1);
        d.x.rest(1, 1);
        d.x.rest(2, 1);
        d.x.but(1);
        d.due("excepted", d.x.clash(0), NONE);
        d.due("lots", d.x.lots(0), 24);
        d.tell(twins + "balcony at a from 0 to 0 worth 9; but not all; but 2 < 1 or minute = 0;");
        d.due("nobody out", d.x.pleased(), 0);
        d.due("two saints", d.x.dawn(0, 0, 0), 16);
        d.x.rest(0, 1);
        d.x.rest(1, 1);
        d.x.but(1);
        d.due("not excepted", d.x.clash(0), 0);
        d.x.but(2);
        d.due("not excepted", d.x.clash(0), 1);
        d.due("two orders", d.x.lots(0), 2);
        d = s.desk();
        for (int sum = 699; sum <= 701; sum++) {
            d.tell(twins + "but 0" + many(700, "+1") + "=" + sum + ";");
            d.x.rest(0, 1);
            d.x.rest(1, 1);
            d.x.but(1);
            d.due("excepted by 700 = " + sum, d.x.clash(0), sum == 700 ? NONE : 0);
        }
    }

    private static void faultCall() {
        Sentence s = new Sentence(5, "Of the latest city(): its FAULT (what 0; 0 without, and ahead of any), its place (1; NONE "
                + "without). NONE for another what.");
        Desk d = s.desk();
        d.due("ahead of any", d.x.fault(0), 0);
        d.due("ahead of any", d.x.fault(1), NONE);
        d.fault("rain 1000;", 2, 5);
        d.fault("corner a parish 1; lane b", 3, 24);
        d.due("still so", d.x.fault(0), 3);
        d.due("feeds do not count", d.x.feed(0, 0, 0, 0, 0), 20);
        d.due("still so", d.x.fault(1), 24);
        int[] others = {2, 3, -1, Integer.MAX_VALUE, Integer.MIN_VALUE};
        for (int what : others) {
            d.due("what " + what, d.x.fault(what), NONE);
        }
        d.due("without", d.tell("rain 1;"), 1);
        d.due("without", d.x.fault(0), 0);
        d.due("without", d.x.fault(1), NONE);
        d.due("what 2", d.x.fault(2), NONE);
    }

    private static void hasCall() {
        Sentence s = new Sentence(6, "How many there are: 0 CORNERS, 1 LANES, 2 SAINTS, 3 BALCONIES, 4 EXCEPTIONS, 5 the minute of the "
                + "rain (NONE never), 6 PARISHES that there are, 7 SHUT LANES, 8 EXCEPTIONS ON (bits), 9 acts that can be undone.");
        Desk d = s.city(many(5, "corner # parish 3;") + "corner f parish 9; lane a b long 1 walls 1; lane a c long 1 walls 1;"
                + "lane a d long 1 walls 1; saint s at a pace 1 loud 0 petals 9; saint t at a pace 1 loud 0 petals 9;"
                + "balcony at a from 0 to 9 worth 5; but all; but all; but all; but all; rain 0;");
        d.x.shut(0, true);
        d.x.shut(2, true);
        d.x.but(15);
        d.x.but(10);
        d.x.rest(0, 1);
        d.x.rest(0, 31);
        int[] due = {6, 3, 2, 1, 4, 0, 2, 2, 10, 5};
        for (int what = 0; what <= 9; what++) {
            d.due("has " + what, d.x.has(what), due[what]);
        }
        for (int i = 0; i < 14; i++) {
            d.x.rest(0, 1);
        }
        d.due("19 acts", d.x.has(9), 19);
        d.x.rest(0, 1);
        d.due("20 acts", d.x.has(9), 20);
        d.x.rest(0, 1);
        d.due("the last 20 alone", d.x.has(9), 20);
        d.x.undo();
        d.due("one undone", d.x.has(9), 19);
        d = s.city(many(9, "corner # parish 1;").replace("a parish 1", "a parish 9"));
        d.due("never", d.x.has(5), NONE);
        d.due("two parishes", d.x.has(6), 2);
        s = new Sentence(6, "NONE for others.");
        int[] others = {10, 11, 32, -1, -2, Integer.MAX_VALUE, Integer.MIN_VALUE};
        for (int what : others) {
            d = s.city(LANE);
            d.due("has " + what, d.x.has(what), NONE);
        }
    }

    private static void letterCall() {
        Sentence s = new Sentence(7, "Letter k (0 .. 5) of the NAME of a CORNER (kind 0), a SAINT (1): 1 .. 26; 0 behind it; NONE when "
                + "there is none such.");
        Desk d = s.city("corner abyzmn parish 1; corner q parish 2; saint zz at q pace 1 loud 0 petals 0;");
        int[] due = {1, 2, 25, 26, 13, 14};
        for (int k = 0; k < 6; k++) {
            d.due("letter 0 0 " + k, d.x.letter(0, 0, k), due[k]);
            d.due("letter 0 1 " + k, d.x.letter(0, 1, k), k == 0 ? 17 : 0);
            d.due("letter 1 0 " + k, d.x.letter(1, 0, k), k < 2 ? 26 : 0);
        }
        int[][] none = {{0, 0, 6}, {0, 0, -1}, {0, 1, 6}, {1, 0, 6}, {1, 0, -1}, {0, 2, 0}, {0, -1, 0}, {1, 1, 0}, {1, -1, 0},
            {2, 0, 0}, {-1, 0, 0}, {0, Integer.MAX_VALUE, 0}, {0, Integer.MIN_VALUE, 0}, {0, 0, Integer.MAX_VALUE}};
        for (int[] n : none) {
            d.due("letter " + n[0] + " " + n[1] + " " + n[2], d.x.letter(n[0], n[1], n[2]), NONE);
        }
        d.tell("corner b parish 1;");
        d.due("behind a shorter name than before", d.x.letter(0, 0, 1), 0);
    }

    private static void laneAndSoundCalls() {
        Sentence s = new Sentence(8, "Of a LANE: 0, 1 its CORNERS, 2 long, 3 walls, 4 whether SHUT. NONE when there is none such, or "
                + "for others.");
        Desk d = s.city(ABC + "lane b a long 9 walls 0; lane b c long 1 walls 9;");
        int[][] due = {{1, 0, 9, 0, 0}, {1, 2, 1, 9, 1}};
        d.x.shut(1, true);
        for (int lane = 0; lane < 2; lane++) {
            for (int what = 0; what < 5; what++) {
                d.due("lane " + lane + " " + what, d.x.lane(lane, what), due[lane][what]);
            }
        }
        d.x.shut(1, false);
        d.due("open again", d.x.lane(1, 4), 0);
        int[][] none = {{0, 5}, {0, -1}, {1, 5}, {2, 0}, {2, 4}, {-1, 0}, {-1, 4}, {16, 0}, {Integer.MAX_VALUE, 0},
            {Integer.MIN_VALUE, 0}, {0, Integer.MAX_VALUE}, {0, Integer.MIN_VALUE}};
        for (int[] n : none) {
            d.due("lane " + n[0] + " " + n[1], d.x.lane(n[0], n[1]), NONE);
        }
        s = new Sentence(9, "SOUND; NONE when there are none such CORNERS.");
        d = s.city(LANE);
        d.due("sound", d.x.sound(0, 1), 3);
        int[][] missing = {{0, 2}, {2, 0}, {2, 2}, {-1, 0}, {0, -1}, {0, 10}, {Integer.MAX_VALUE, 0}, {0, Integer.MIN_VALUE}};
        for (int[] n : missing) {
            d.due("sound " + n[0] + " " + n[1], d.x.sound(n[0], n[1]), NONE);
        }
    }

    private static void saintCall() {
        Sentence s = new Sentence(10, "Of a SAINT: 0 its CORNER, 1 pace, 2 loud, 3 petals, 4 STEPS, 5 END, 6 the CORNER where it ends. "
                + "NONE when there is none such, or for others.");
        Desk d = s.city(LANE + "saint s at b pace 5 loud 20 petals 99; saint t at a pace 1 loud 0 petals 0;");
        int[][] still = {{1, 5, 20, 99, 0, 0, 1}, {0, 1, 0, 0, 0, 0, 0}};
        int[][] gone = {{1, 5, 20, 99, 2, 13, 0}, {0, 1, 0, 0, 2, 4, 0}};
        for (int what = 0; what <= 6; what++) {
            d.due("saint 0 " + what, d.x.saint(0, what), still[0][what]);
            d.due("saint 1 " + what, d.x.saint(1, what), still[1][what]);
        }
        d.x.go(0, 0);
        d.x.rest(0, 3);
        d.x.go(1, 1);
        d.x.go(1, 0);
        for (int what = 0; what <= 6; what++) {
            d.due("saint 0 " + what, d.x.saint(0, what), gone[0][what]);
            d.due("saint 1 " + what, d.x.saint(1, what), gone[1][what]);
        }
        int[][] none = {{0, 7}, {0, -1}, {2, 0}, {2, 5}, {-1, 0}, {-1, 6}, {4, 0}, {Integer.MAX_VALUE, 0}, {Integer.MIN_VALUE, 0},
            {0, Integer.MAX_VALUE}, {0, Integer.MIN_VALUE}};
        for (int[] n : none) {
            d.due("saint " + n[0] + " " + n[1], d.x.saint(n[0], n[1]), NONE);
        }
    }
}
