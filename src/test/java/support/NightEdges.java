/** The edges that the document names of ways, of the night they make and of the custom: promises 11 to 27. */
final class NightEdges {
    private static final int NONE = NineSaints.NONE;
    private static final int MAX = Integer.MAX_VALUE;
    private static final int MIN = Integer.MIN_VALUE;
    private static final String LINE = "corner a parish 1; corner b parish 2; corner c parish 3;"
            + "lane a b long 2 walls 3; lane b c long 3 walls 4;";
    /** Two saints at one corner that hear each other there alone. */
    private static final String TWINS = "corner a parish 1; corner b parish 1; lane a b long 2 walls 9;"
            + "saint s at a pace 1 loud 0 petals 0; saint t at a pace 1 loud 0 petals 0;";

    private NightEdges() {
    }

    static void run() {
        sound();
        steps();
        ends();
        placesOfAWay();
        out();
        petalsLie();
        rain();
        drums();
        lastMinute();
        troddenPetals();
        excepted();
        exceptedByMinute();
        exceptedByPairAndSound();
        firstClash();
        lawful();
        pleasedBalconies();
        goCall();
        restCall();
        clearCall();
        undoCall();
        undoOfEachAct();
        whereAndOnCalls();
        petalsCall();
        passesCall();
        clashCall();
        clashesCall();
        meetCall();
        pleasedCall();
        butCall();
        words();
        softer();
        shutCall();
        sweep();
    }

    private static void sound() {
        Sentence s = new Sentence(9, "SOUND of two CORNERS: the least walls together by LANES (shut or not) from one to the other; "
                + "999 when there are none such.");
        Desk d = s.city(LINE + "lane a c long 1 walls 8; corner d parish 4; corner e parish 4; lane d e long 1 walls 0;"
                + "corner f parish 5;");
        int[][] due = {{0, 0, 0}, {0, 1, 3}, {1, 0, 3}, {1, 2, 4}, {0, 2, 7}, {2, 0, 7}, {3, 4, 0}, {5, 5, 0}, {0, 3, 999},
            {3, 0, 999}, {4, 2, 999}, {5, 0, 999}, {5, 4, 999}};
        for (int[] n : due) {
            d.due("sound " + n[0] + " " + n[1], d.x.sound(n[0], n[1]), n[2]);
        }
        d.x.shut(0, true);
        d.x.shut(1, true);
        d.x.shut(3, true);
        for (int[] n : due) {
            d.due("shut or not " + n[0] + " " + n[1], d.x.sound(n[0], n[1]), n[2]);
        }
        StringBuilder row = new StringBuilder(TextEdges.many(10, "corner # parish 1;"));
        for (char c = 'a'; c < 'j'; c++) {
            row.append("lane ").append((char) (c + 1)).append(' ').append(c).append(" long 1 walls 9;");
        }
        d = s.city("corner a parish 1; corner b parish 2; corner c parish 3; lane b a long 1 walls 5; lane a c long 1 walls 6;");
        d.due("by the first corner", d.x.sound(1, 2), 11);
        d = s.city(row.toString());
        d.due("from one end of ten to the other", d.x.sound(0, 9), 81);
        d.due("and back", d.x.sound(9, 0), 81);
    }

    private static void steps() {
        Sentence s = new Sentence(11, "A WAY of a SAINT begins at its CORNER at minute 0: STEPS (24 at most):");
        Desk d = s.city(LINE + "saint s at b pace 1 loud 0 petals 0; saint t at a pace 1 loud 0 petals 0;");
        d.due("at its corner", d.x.where(0, 0), 1);
        d.due("not from another one", d.x.go(0, 1), NONE);
        d.due("from minute 0", d.x.go(0, 2), 3);
        d.due("at its corner still", d.x.where(0, 0), 1);
        for (int i = 2; i <= 24; i++) {
            d.due("step " + i, d.x.rest(0, 1), i + 2);
        }
        d.due("24 steps", d.x.saint(0, 4), 24);
        d.due("a 25th, a rest", d.x.rest(0, 1), NONE);
        d.due("a 25th, by a lane", d.x.go(0, 1), NONE);
        d.due("24 steps still", d.x.saint(0, 4), 24);
        d.due("the last undone", d.x.undo(), true);
        d.due("the 24th by a lane", d.x.go(0, 1), 28);
        d.due("a 25th", d.x.go(0, 2), NONE);
        for (int i = 1; i <= 24; i++) {
            d.due("step of the other " + i, d.x.go(1, i % 2), 2 * i);
        }
        d.due("a 25th of the other", d.x.go(1, 1), NONE);
        d = s.city(LINE + "saint s at b pace 1 loud 0 petals 0;");
        for (int i = 1; i <= 24; i++) {
            d.x.go(0, (i + 1) % 2);
        }
        d.due("24 by lanes", d.x.saint(0, 4), 24);
        d.due("end at b", d.x.saint(0, 6), 1);
        d.due("at b", d.x.where(0, 999), 1);
        d.due("a 25th", d.x.rest(0, 1), NONE);
        s = new Sentence(11, "by a LANE that is not SHUT to the CORNER at its other end, which takes its long times the pace; or a "
                + "REST (1 .. 30 minutes).");
        d = s.city("corner a parish 1; corner b parish 1; corner c parish 1; lane a b long 9 walls 0; lane c b long 1 walls 0;"
                + "saint s at a pace 5 loud 0 petals 0; saint t at c pace 1 loud 0 petals 0;");
        d.due("no lane", d.x.go(0, 2), NONE);
        d.due("9 by 5", d.x.go(0, 1), 45);
        d.due("from the second end to the first", d.x.go(0, 2), 50);
        d.due("1 by 1", d.x.go(1, 1), 1);
        d.x.shut(1, true);
        d.due("shut", d.x.go(0, 1), NONE);
        d.due("shut", d.x.go(1, 2), NONE);
        d.due("the other lane", d.x.go(1, 0), 10);
        d.x.shut(1, false);
        d.due("not shut", d.x.go(0, 1), 55);
        d.due("rest 0", d.x.rest(0, 0), NONE);
        d.due("rest 1", d.x.rest(0, 1), 56);
        d.due("rest 30", d.x.rest(0, 30), 86);
        d.due("rest 31", d.x.rest(0, 31), NONE);
    }

    private static Desk far(Sentence s) {
        Desk d = s.city("corner a parish 1; corner b parish 1; lane a b long 9 walls 0; saint s at a pace 5 loud 0 petals 9;");
        for (int i = 1; i <= 22; i++) {
            d.due("go " + i, d.x.go(0, i % 2), 45 * i);
        }
        return d;
    }

    private static void ends() {
        Sentence s = new Sentence(10, "It ends with its last STEP (END; 0 without STEPS; 999 at most).");
        Desk d = far(s);
        d.due("by a lane to 1035", d.x.go(0, 1), NONE);
        d.due("a rest to 1000", d.x.rest(0, 10), NONE);
        d.due("a rest to 999", d.x.rest(0, 9), 999);
        d.due("END", d.x.saint(0, 5), 999);
        d.due("a rest to 1000", d.x.rest(0, 1), NONE);
        d.x.clear(0);
        d.due("END without steps", d.x.saint(0, 5), 0);
        d.x.rest(0, 9);
        d.due("END of a rest", d.x.saint(0, 5), 9);
        for (int i = 1; i <= 22; i++) {
            d.due("go " + i, d.x.go(0, i % 2), 9 + 45 * i);
        }
        d.due("END by a lane", d.x.saint(0, 5), 999);
        d.x.clear(0);
        d.x.rest(0, 10);
        for (int i = 1; i <= 21; i++) {
            d.x.go(0, i % 2);
        }
        d.due("by a lane to 1000", d.x.go(0, 0), NONE);
    }

    /** x comes to b in 4; y rests 2 minutes at c, comes to b in 5, rests 2, comes to a in 9. */
    private static Desk walked(Sentence s) {
        Desk d = s.city(LINE + "saint x at a pace 2 loud 3 petals 5; saint y at c pace 1 loud 0 petals 9;");
        d.x.go(0, 1);
        d.x.rest(1, 2);
        d.x.go(1, 1);
        d.x.rest(1, 2);
        d.x.go(1, 0);
        return d;
    }

    private static void placesOfAWay() {
        Sentence s = new Sentence(15, "It is AT a CORNER from the minute in which it comes there (0 at first) up to the one ahead of "
                + "that in which it comes to the next one.");
        Desk d = walked(s);
        int[] at = {2, 2, 2, 2, 2, 1, 1, 1, 1, 0, 0};
        int[] by = {NONE, NONE, NONE, 1, 1, 1, NONE, NONE, 0, 0, NONE};
        for (int minute = 0; minute < at.length; minute++) {
            d.due("where 1 " + minute, d.x.where(1, minute), at[minute]);
            d.due("where 0 " + minute, d.x.where(0, minute), minute < 4 ? 0 : 1);
        }
        d.x.undo();
        d.due("the last step undone", d.x.where(1, 9), 1);
        d.x.clear(1);
        d.due("no steps", d.x.where(1, 5), 2);
        s = new Sentence(16, "It is ON a LANE in the minutes behind that in which it leaves up to that in which it comes.");
        d = walked(s);
        for (int minute = 0; minute < by.length; minute++) {
            d.due("on 1 " + minute, d.x.on(1, minute), by[minute]);
            d.due("on 0 " + minute, d.x.on(0, minute), minute >= 1 && minute <= 4 ? 0 : NONE);
        }
    }

    private static void out() {
        Sentence s = new Sentence(20, "It is OUT in minutes 0 .. END, if it has STEPS.");
        Desk d = s.city(TWINS);
        d.due("none out", d.x.clashes(0), 0);
        d.x.rest(0, 3);
        d.due("one without steps", d.x.clashes(0), 0);
        d.x.rest(1, 5);
        d.due("minutes 0 to 3", d.x.clashes(0), 4);
        d.due("from 0 on", d.x.meet(0, 1), 0);
        d.x.rest(0, 2);
        d.due("minutes 0 to 5", d.x.clashes(0), 6);
        d.x.rest(0, 2);
        d.due("minutes 0 to 5 still", d.x.clashes(0), 6);
        d.x.clear(1);
        d.due("none any more", d.x.clashes(0), 0);
    }

    private static Desk strewn(Sentence s, int petals, String rain) {
        Desk d = s.city("corner a parish 1; corner b parish 1; corner c parish 1; lane a b long 2 walls 9; lane b c long 1 walls 9;"
                + "saint s at a pace 1 loud 0 petals " + petals + ";" + rain);
        d.due("comes", d.x.go(0, 1), 2);
        return d;
    }

    private static void lies(Desk d, int lane, int from, int to) {
        for (int minute = 0; minute <= 999; minute += minute < 16 || minute > 96 && minute < 104 ? 1 : 4) {
            d.due("petals " + lane + " " + minute, d.x.petals(lane, minute), minute >= from && minute <= to ? 1 : 0);
        }
    }

    private static void petalsLie() {
        Sentence s = new Sentence(17, "PETALS of a SAINT lie on a LANE by which it came, from the minute in which it came on, so many "
                + "minutes as told;");
        int[] told = {0, 1, 2, 9, 99};
        for (int petals : told) {
            lies(strewn(s, petals, ""), 0, 2, petals + 1);
        }
        Desk d = strewn(s, 9, "");
        d.due("on no other lane", d.x.petals(1, 3), 0);
        d.x.rest(0, 5);
        d.due("a rest leaves none", d.x.petals(1, 7), 0);
        d.due("nor on the lane behind", d.x.petals(0, 11), 0);
        d.x.go(0, 2);
        d.due("not ahead of 8", d.x.petals(1, 7), 0);
        d.due("from 8 on", d.x.petals(1, 8), 1);
        d.x.go(0, 1);
        d.due("from the latest on", d.x.petals(1, 17), 1);
        d.due("behind", d.x.petals(1, 18), 0);
        d = far(s);
        d.x.rest(0, 9);
        d.due("from 990 on", d.x.petals(0, 989), 0);
        d.due("from 990 on", d.x.petals(0, 990), 1);
        d.due("up to 998", d.x.petals(0, 998), 1);
        d.due("not in 999", d.x.petals(0, 999), 0);
    }

    private static void rain() {
        Sentence s = new Sentence(17, "those that were there ahead of the minute of the rain do not from that one on.");
        int[][] due = {{0, 10}, {1, 10}, {2, 10}, {3, 2}, {4, 3}, {10, 9}, {11, 10}, {12, 10}, {999, 10}};
        for (int[] n : due) {
            lies(strewn(s, 9, "rain " + n[0] + ";"), 0, 2, n[1]);
        }
        Desk d = strewn(s, 9, "rain 4;");
        d.due("again by the lane", d.x.go(0, 0), 4);
        d.due("those of 2", d.x.petals(0, 3), 1);
        d.due("those of 4 came with the rain", d.x.petals(0, 4), 1);
        d.due("up to 12", d.x.petals(0, 12), 1);
        d.due("not in 13", d.x.petals(0, 13), 0);
        d = strewn(s, 9, "rain 3;");
        d.x.go(0, 0);
        d.due("gone in 3", d.x.petals(0, 3), 0);
        d.due("there again in 4", d.x.petals(0, 4), 1);
    }

    private static void hear(Sentence s, String walls, int loud, int other, int due) {
        Desk d = s.city("corner a parish 1; corner b parish 1;" + walls + "saint s at a pace 1 loud " + loud
                + " petals 0; saint t at b pace 1 loud " + other + " petals 0;");
        d.x.rest(0, 2);
        d.x.rest(1, 4);
        d.due("clashes(0), loud " + loud + " and " + other + ", " + walls, d.x.clashes(0), due);
    }

    private static void drums() {
        Sentence s = new Sentence(20, "CLASHES of two unlike SAINTS in a minute: of drums, if both are OUT and SOUND of where they are AT "
                + "is not above the greater loud;");
        String five = "lane a b long 9 walls 5;";
        hear(s, five, 5, 0, 3);
        hear(s, five, 0, 5, 3);
        hear(s, five, 5, 5, 3);
        hear(s, five, 4, 4, 0);
        hear(s, five, 4, 0, 0);
        hear(s, five, 0, 6, 3);
        hear(s, "lane a b long 9 walls 0;", 0, 0, 3);
        hear(s, "lane a b long 9 walls 1;", 0, 0, 0);
        hear(s, "", 20, 20, 0);
        Desk d = s.city("corner a parish 1; saint s at a pace 1 loud 20 petals 9;");
        d.x.rest(0, 5);
        d.due("one alone", d.x.clashes(0), 0);
        d = s.city(LINE + "saint s at a pace 1 loud 0 petals 0; saint t at c pace 1 loud 0 petals 0;");
        d.x.go(0, 1);
        d.x.rest(0, 2);
        d.x.go(1, 1);
        d.x.go(1, 0);
        d.due("both at b in minutes 3 and 4", d.x.clashes(0), 2);
        d.due("first in 3", d.x.meet(0, 1), 3);
        d = s.city("corner a parish 1; corner b parish 1; corner c parish 1; corner d parish 1; lane a b long 1 walls 9;"
                + "lane b c long 1 walls 9; lane c d long 1 walls 2; saint s at a pace 1 loud 20 petals 0;"
                + "saint t at d pace 1 loud 0 petals 0; but far = 20;");
        d.x.rest(0, 1);
        d.x.rest(1, 1);
        d.due("a sound of 20", d.x.clashes(0), 2);
        d.x.but(1);
        d.due("is 20 to an exception", d.x.clash(0), NONE);
    }

    /** s is at a up to 999, to which t comes in 999; nothing else clashes. */
    private static void lastMinute() {
        Sentence s = new Sentence(20, "CLASHES of drums (sort 0), of petals (1), EXCEPTED ones too, pair by pair, minute by minute;");
        Desk d = s.city("corner a parish 1; corner b parish 1; corner c parish 1; corner d parish 1; lane a b long 9 walls 9;"
                + "lane c d long 9 walls 9; lane c a long 9 walls 9; saint s at a pace 5 loud 0 petals 0;"
                + "saint t at d pace 5 loud 0 petals 0; but minute < 999; but minute = 999; but minute > 998;");
        d.x.rest(1, 9);
        for (int i = 1; i <= 22; i++) {
            d.x.go(0, i % 2);
            d.x.go(1, i == 22 ? 0 : 3 - i % 2);
        }
        d.due("without drums", d.x.clashes(0), 0);
        d.due("up to 999", d.x.rest(0, 9), 999);
        d.due("drums in 999", d.x.clashes(0), 1);
        d.due("meet in 999", d.x.meet(0, 1), 999);
        isFirst(d, 999, 0, 0, 1);
        d.x.but(1);
        isFirst(d, 999, 0, 0, 1);
        d.due("softer", d.x.softer(0), 2);
        d.x.but(2);
        d.due("excepted", d.x.clash(0), NONE);
        d = s.city("corner a parish 1; corner b parish 1; lane a b long 9 walls 9; saint s at a pace 5 loud 0 petals 99;"
                + "saint t at a pace 5 loud 0 petals 0; but minute < 999;");
        d.x.rest(1, 9);
        for (int i = 1; i <= 22; i++) {
            d.x.go(0, i % 2);
            d.x.go(1, i % 2);
        }
        d.x.but(1);
        isFirst(d, 999, 1, 0, 1);
        d.due("petals in minutes 45 to 999", d.x.clashes(1), 955);
        d = s.city("corner a parish 1; corner b parish 1; lane a b long 1 walls 9; saint s at a pace 1 loud 0 petals 99;"
                + "saint t at a pace 1 loud 0 petals 99;");
        for (int i = 1; i <= 24; i++) {
            d.x.go(0, i % 2);
            d.x.go(1, i % 2);
        }
        d.due("24 steps of both, side by side", d.x.clashes(0), 25);
        d.due("24 steps of both, side by side", d.x.clashes(1), 24);
    }

    private static void trodden(Sentence s, int petals, int wait, int due, boolean lesserStrews) {
        Desk d = s.city("corner a parish 1; corner b parish 1; corner c parish 1; lane a b long 2 walls 9; lane a c long 1 walls 9;"
                + "saint s at a pace 1 loud 0 petals " + (lesserStrews ? petals : 0) + ";"
                + "saint t at a pace 1 loud 0 petals " + (lesserStrews ? 0 : petals) + ";");
        int strewer = lesserStrews ? 0 : 1;
        d.x.go(strewer, 1);
        d.x.rest(1 - strewer, wait);
        d.due("with a rest alone", d.x.clashes(1), 0);
        d.x.go(1 - strewer, 1);
        d.due("clashes(1), petals " + petals + ", behind " + wait, d.x.clashes(1), due);
        d.x.clear(strewer);
        d.due("without steps of one", d.x.clashes(1), 0);
    }

    private static void troddenPetals() {
        Sentence s = new Sentence(20, "of petals, if both have STEPS and one is ON a LANE on which the other one's PETALS lie.");
        for (int lesser = 0; lesser < 2; lesser++) {
            // They lie from 2 on, and the other one is on the lane in two minutes behind its rest.
            trodden(s, 5, 4, 2, lesser == 1);
            trodden(s, 4, 4, 1, lesser == 1);
            trodden(s, 3, 4, 0, lesser == 1);
            trodden(s, 0, 4, 0, lesser == 1);
            trodden(s, 99, 1, 2, lesser == 1);
            trodden(s, 1, 1, 1, lesser == 1);
        }
        Desk d = s.city(TWINS.replace("petals 0", "petals 9"));
        d.x.go(0, 1);
        d.x.go(1, 1);
        d.due("side by side, when both come", d.x.clashes(1), 1);
        d.due("one's own petals", d.x.clear(1) && d.x.go(0, 0) == 4 ? d.x.clashes(1) : NONE, 0);
        d = s.city("corner a parish 1; corner b parish 1; lane a b long 2 walls 9; saint s at a pace 1 loud 0 petals 5;"
                + "saint t at b pace 1 loud 0 petals 5;");
        d.x.go(0, 1);
        d.x.rest(1, 1);
        d.x.go(1, 0);
        d.due("towards each other: t goes in 2, 3 by petals of 2", d.x.clashes(1), 2);
    }

    private static void excepted() {
        Sentence s = new Sentence(19, "It is EXCEPTED, if an EXCEPTION that is ON holds.");
        Desk d = s.city(TWINS + "but all; but not all; but minute < 2;");
        d.x.rest(0, 3);
        d.x.rest(1, 3);
        int[] due = {0, NONE, 0, NONE, 2, NONE, 2, NONE};
        for (int on = 0; on < 8; on++) {
            d.x.but(on);
            d.due("clash(0) with " + on, d.x.clash(0), due[on]);
        }
        d.x.but(0);
        d.due("clash(0) with none again", d.x.clash(0), 0);
    }

    private static void exceptedByMinute() {
        Sentence s = new Sentence(19, "It is EXCEPTED, if an EXCEPTION that is ON holds.");
        Desk d = s.city(TWINS + "but minute < 64; but minute - minute / 64 * 64 > 0; but minute = 64 or minute = 0;"
                + "but minute * minute = minute; but minute < 128 and not minute = 127;");
        for (int i = 0; i < 5; i++) {
            d.x.rest(0, 30);
            d.x.rest(1, 30);
        }
        int[][] due = {{1, 64}, {2, 0}, {6, 128}, {4, 1}, {8, 2}, {16, 127}, {3, 64}, {18, 128}, {7, 128}};
        for (int[] n : due) {
            d.x.but(n[0]);
            d.due("clash(0) with " + n[0], d.x.clash(0), n[1]);
        }
    }

    /** What holds of a pair, a sound or petals says nothing of another pair, another sound or drums. */
    private static void exceptedByPairAndSound() {
        Sentence s = new Sentence(19, "It is EXCEPTED, if an EXCEPTION that is ON holds.");
        String pairs = "corner a parish 1; corner b parish 1; saint p at a pace 1 loud 0 petals 0; saint q at b pace 1 loud 0 petals 0;"
                + "saint r at b pace 1 loud 0 petals 0; saint s at a pace 1 loud 0 petals 0; but first = 0; but first = 1;";
        Desk d = out(s.city(pairs), 4);
        d.x.but(1);
        isFirst(d, 0, 0, 1, 2);
        d.x.but(2);
        isFirst(d, 0, 0, 0, 3);
        d = out(s.city(pairs.replace("at b", "at a") + "but second = 1; but second = 2; but second = 3;"), 4);
        int[][] due = {{1, 1, 2}, {3, 2, 3}, {4, 0, 2}, {8, 0, 1}, {12, 0, 3}, {16, 0, 1}, {28, NONE, NONE}, {13, 1, 3}, {9, 1, 3}};
        for (int[] n : due) {
            d.x.but(n[0]);
            d.due("clash(2) with " + n[0], d.x.clash(2), n[1]);
            d.due("clash(3) with " + n[0], d.x.clash(3), n[2]);
        }
        // p and q drum at a sound of 20, p and r at none of them.
        d = out(s.city("corner a parish 1; corner b parish 1; corner c parish 1; corner d parish 1; lane a b long 1 walls 9;"
                + "lane b c long 1 walls 9; lane c d long 1 walls 2; saint p at a pace 1 loud 20 petals 0;"
                + "saint q at d pace 1 loud 0 petals 0; saint r at a pace 1 loud 0 petals 0; but far = 20; but far = 0;"), 3);
        d.x.but(1);
        isFirst(d, 0, 0, 0, 2);
        d.x.but(2);
        isFirst(d, 0, 0, 0, 1);
        // p and q drum at a sound of 1, p and r at none; in minute 91 q is where p is.
        d = s.city("corner a parish 1; corner b parish 1; lane a b long 1 walls 1; saint p at a pace 1 loud 1 petals 0;"
                + "saint q at b pace 1 loud 0 petals 0; saint r at a pace 1 loud 0 petals 0; but far = 1;");
        for (int i = 0; i < 4; i++) {
            d.x.rest(0, 30);
            if (i < 3) {
                d.x.rest(1, 30);
            }
        }
        d.x.go(1, 0);
        isFirst(d, 0, 0, 0, 1);
        d.x.but(1);
        isFirst(d, 91, 0, 0, 1);
        d.x.rest(2, 1);
        isFirst(d, 0, 0, 0, 2);
        // q goes by petals of p in minute 3, p and r drum at d from minute 2 on.
        d = s.city("corner a parish 1; corner b parish 1; corner c parish 1; corner d parish 1; lane a b long 1 walls 9;"
                + "lane c a long 1 walls 9; lane b d long 1 walls 9; saint p at a pace 1 loud 0 petals 9;"
                + "saint q at c pace 1 loud 0 petals 0; saint r at d pace 1 loud 0 petals 0; but sort = 1; but sort = 0;");
        d.x.go(0, 1);
        d.x.go(0, 3);
        d.x.rest(0, 8);
        d.x.rest(1, 1);
        d.x.go(1, 0);
        d.x.go(1, 1);
        d.x.rest(2, 9);
        d.x.but(1);
        isFirst(d, 2, 0, 0, 2);
        d.x.but(2);
        isFirst(d, 3, 1, 0, 1);
    }

    private static Desk out(Desk d, int saints) {
        for (int saint = 0; saint < saints; saint++) {
            d.x.rest(saint, 1);
        }
        return d;
    }

    private static void isFirst(Desk d, int minute, int sort, int lesser, int greater) {
        d.due("clash(0)", d.x.clash(0), minute);
        d.due("clash(1)", d.x.clash(1), sort);
        d.due("clash(2)", d.x.clash(2), lesser);
        d.due("clash(3)", d.x.clash(3), greater);
    }

    private static void firstClash() {
        Sentence s = new Sentence(19, "THE FIRST CLASH: by minute, drums ahead of petals, by the lesser SAINT, then the greater one.");
        String six = "corner a parish 1; corner b parish 1; corner c parish 1; corner d parish 1; corner e parish 1; corner f parish 1;"
                + "lane a b long 1 walls 9; lane b c long 1 walls 9; lane d a long 4 walls 9; lane e f long 5 walls 9;";
        Desk d = s.city(six + "saint p at a pace 1 loud 0 petals 9; saint q at d pace 1 loud 0 petals 0;"
                + "saint r at e pace 1 loud 0 petals 0; saint s at f pace 1 loud 0 petals 0;");
        d.x.go(0, 1);
        d.x.go(0, 2);
        d.x.go(1, 0);
        d.x.go(1, 1);
        isFirst(d, 5, 1, 0, 1);
        d.x.go(2, 5);
        d.x.rest(3, 5);
        isFirst(d, 5, 0, 2, 3);
        d.x.clear(2);
        d.x.rest(2, 1);
        d.x.go(2, 5);
        d.x.rest(3, 1);
        isFirst(d, 5, 1, 0, 1);
        String four = "corner a parish 1; corner b parish 1;";
        String[] at = {"abba", "abab", "aaaa", "baaa", "aabb"};
        int[][] due = {{0, 3}, {0, 2}, {0, 1}, {1, 2}, {0, 1}};
        for (int i = 0; i < at.length; i++) {
            StringBuilder text = new StringBuilder(four);
            for (int saint = 0; saint < 4; saint++) {
                text.append("saint ").append((char) ('p' + saint)).append(" at ").append(at[i].charAt(saint))
                        .append(" pace 1 loud 0 petals 0;");
            }
            d = s.city(text.toString());
            for (int saint = 0; saint < 4; saint++) {
                d.x.rest(saint, 1);
            }
            isFirst(d, 0, 0, due[i][0], due[i][1]);
        }
        // They change places in minute 1 by one lane, and are both at a in minute 2.
        d = s.city("corner a parish 1; corner b parish 1; lane a b long 1 walls 9; saint p at a pace 1 loud 0 petals 9;"
                + "saint q at b pace 1 loud 0 petals 9;");
        d.x.go(0, 1);
        d.x.go(0, 0);
        d.x.go(1, 0);
        d.x.rest(1, 1);
        isFirst(d, 1, 1, 0, 1);
        d = s.city(TWINS.replace("petals 0", "petals 9") + "but sort = 0 and minute < 3;");
        d.x.but(1);
        d.x.go(0, 1);
        d.x.rest(0, 1);
        d.x.go(1, 1);
        d.x.rest(1, 1);
        isFirst(d, 2, 1, 0, 1);
    }

    private static void lawful() {
        Sentence s = new Sentence(33, "LAWFUL is a night without a CLASH that is not EXCEPTED.");
        Desk d = s.city(TWINS + "but minute < 1; but minute > 0;");
        d.due("nobody out", d.x.mend(), 0);
        d.x.rest(0, 1);
        d.x.rest(1, 1);
        d.x.but(1);
        d.due("one minute not excepted: t has an option of no steps", d.x.mend(), 1);
        d.due("steps", d.x.saint(1, 4), 0);
        d.x.undo();
        d.x.but(3);
        d.due("clashes all excepted", d.x.mend(), 0);
        d.due("steps", d.x.saint(1, 4), 1);
    }

    private static void pleasedBalconies() {
        Sentence s = new Sentence(22, "A BALCONY is pleased, if a SAINT comes to its CORNER (0 at first, if it has STEPS) in its minutes.");
        for (int wait = 1; wait <= 6; wait++) {
            Desk d = s.city(LINE + "saint s at a pace 1 loud 0 petals 0; balcony at b from 4 to 6 worth 7;");
            d.x.rest(0, wait);
            d.x.go(0, 1);
            d.x.rest(0, 9);
            d.due("comes in " + (wait + 2), d.x.pleased(), wait >= 2 && wait <= 4 ? 7 : 0);
        }
        Desk d = s.city(LINE + "saint s at a pace 1 loud 0 petals 0; balcony at a from 0 to 0 worth 7; balcony at a from 1 to 3 worth 11;"
                + "balcony at a from 4 to 4 worth 13;");
        d.due("without steps", d.x.pleased(), 0);
        d.x.rest(0, 2);
        d.due("0 at first, and staying is no coming", d.x.pleased(), 7);
        d.x.clear(0);
        d.x.go(0, 1);
        d.x.go(0, 0);
        d.due("at first and in 4", d.x.pleased(), 20);
        d.x.undo();
        d.due("undone: at first alone", d.x.pleased(), 7);
        d = s.city("corner a parish 1; corner b parish 1; lane a b long 9 walls 0; saint s at a pace 5 loud 0 petals 0;"
                + "balcony at a from 999 to 999 worth 99;");
        d.x.rest(0, 9);
        for (int i = 1; i <= 22; i++) {
            d.x.go(0, i % 2);
        }
        d.due("comes in 999", d.x.pleased(), 99);
    }

    private static void goCall() {
        Sentence s = new Sentence(11, "One more STEP of a SAINT, to a CORNER: the minute in which it comes; NONE when it can't be.");
        Desk d = s.city(LINE + "saint x at a pace 2 loud 0 petals 0;");
        int[][] none = {{1, 1}, {-1, 1}, {4, 1}, {MAX, 1}, {MIN, 1}, {0, 0}, {0, 2}, {0, 3}, {0, -1}, {0, 10}, {0, 101}, {0, MAX}, {0, MIN}};
        for (int[] n : none) {
            d.due("go " + n[0] + " " + n[1], d.x.go(n[0], n[1]), NONE);
        }
        d.due("nothing done", d.x.has(9), 0);
        d.due("steps", d.x.saint(0, 4), 0);
        d.due("one more", d.x.go(0, 1), 4);
        d.due("one more", d.x.go(0, 2), 10);
        d.due("steps", d.x.saint(0, 4), 2);
        d.due("acts", d.x.has(9), 2);
        s.desk().due("go in no city", s.desk().x.go(0, 0), NONE);
    }

    private static void restCall() {
        Sentence s = new Sentence(12, "One more STEP of a SAINT, a REST: the minute in which it ends; NONE when it can't be.");
        Desk d = s.city(LINE + "saint x at a pace 2 loud 0 petals 0;");
        int[][] none = {{1, 1}, {-1, 1}, {4, 1}, {MAX, 1}, {MIN, 1}, {0, 0}, {0, -1}, {0, 31}, {0, 100}, {0, MAX}, {0, MIN}};
        for (int[] n : none) {
            d.due("rest " + n[0] + " " + n[1], d.x.rest(n[0], n[1]), NONE);
        }
        d.due("nothing done", d.x.has(9), 0);
        d.due("30", d.x.rest(0, 30), 30);
        d.due("1 more", d.x.rest(0, 1), 31);
        d.due("steps", d.x.saint(0, 4), 2);
        d.due("acts", d.x.has(9), 2);
    }

    private static void clearCall() {
        Sentence s = new Sentence(13, "A SAINT's WAY has no STEPS any more: true; false when there is none such, or it has none.");
        Desk d = s.city(LINE + "saint x at a pace 2 loud 0 petals 5; saint y at a pace 2 loud 0 petals 5;");
        d.due("has none", d.x.clear(0), false);
        d.x.go(0, 1);
        d.x.rest(1, 3);
        int[] none = {2, -1, 4, MAX, MIN};
        for (int saint : none) {
            d.due("clear " + saint, d.x.clear(saint), false);
        }
        d.due("acts", d.x.has(9), 2);
        d.due("clear", d.x.clear(0), true);
        d.due("steps", d.x.saint(0, 4), 0);
        d.due("END", d.x.saint(0, 5), 0);
        d.due("at home", d.x.where(0, 9), 0);
        d.due("no petals", d.x.petals(0, 4), 0);
        d.due("the other stays", d.x.saint(1, 4), 1);
        d.due("has none any more", d.x.clear(0), false);
        d.due("acts", d.x.has(9), 3);
        d.due("from its corner again", d.x.go(0, 1), 4);
    }

    private static void undoCall() {
        Sentence s = new Sentence(14, "The latest go(), rest(), clear(), shut(), but(), take(), mend() or turn() that did something is undone "
                + "(the last 20 can be): true; false when none can be.");
        Desk d = s.city(LINE + "saint x at a pace 1 loud 0 petals 5; but all;");
        d.due("none yet", d.x.undo(), false);
        for (int i = 1; i <= 20; i++) {
            d.x.rest(0, 1);
        }
        for (int i = 19; i >= 0; i--) {
            d.due("undo", d.x.undo(), true);
            d.due("END", d.x.saint(0, 5), i);
        }
        d.due("none any more", d.x.undo(), false);
        for (int i = 1; i <= 21; i++) {
            d.x.rest(0, 1);
        }
        for (int i = 0; i < 20; i++) {
            d.due("undo", d.x.undo(), true);
        }
        d.due("the 21st", d.x.undo(), false);
        d.due("stays", d.x.saint(0, 5), 1);
        for (int i = 1; i <= 20; i++) {
            d.x.rest(0, 1);
        }
        d.due("nothing to mend", d.x.mend(), 0);
        d.due("nothing to shut", d.x.shut(2, true), false);
        for (int i = 0; i < 20; i++) {
            d.due("undo", d.x.undo(), true);
        }
        d.due("those that did nothing push none out", d.x.saint(0, 5), 1);
        d.x.rest(0, 1);
        d.x.rest(0, 31);
        d.x.go(0, 2);
        d.x.clear(1);
        d.x.shut(0, false);
        d.x.but(0);
        d.due("nothing to mend", d.x.mend(), 0);
        d.due("those that did nothing", d.x.has(9), 1);
        d.due("undo", d.x.undo(), true);
        d.due("END", d.x.saint(0, 5), 1);
        d.due("undoing is no act", d.x.undo(), false);
        d = s.desk();
        d.x.take();
        d.x.mend();
        d.x.turn();
        d.due("without saints", d.x.undo(), false);
    }

    private static Desk rested(Sentence s) {
        Desk d = s.city(LINE + "saint x at a pace 1 loud 0 petals 5; but all; but all;");
        d.x.rest(0, 7);
        return d;
    }

    private static void asRested(Desk d, String undone) {
        d.due("acts with " + undone, d.x.has(9), 2);
        d.due("undo of " + undone, d.x.undo(), true);
        d.due("steps behind " + undone, d.x.saint(0, 4), 1);
        d.due("END behind " + undone, d.x.saint(0, 5), 7);
        d.due("shut behind " + undone, d.x.has(7), 0);
        d.due("on behind " + undone, d.x.has(8), 0);
        d.due("where behind " + undone, d.x.where(0, 999), 0);
        d.due("routes behind " + undone, d.x.routes(0), 1);
        d.due("acts behind " + undone, d.x.has(9), 1);
    }

    private static void undoOfEachAct() {
        Sentence s = new Sentence(14, "The latest go(), rest(), clear(), shut(), but(), take(), mend() or turn() that did something is "
                + "undone");
        Desk d = rested(s);
        d.due("go", d.x.go(0, 1), 9);
        asRested(d, "go");
        d = rested(s);
        d.due("rest", d.x.rest(0, 2), 9);
        asRested(d, "rest");
        d = rested(s);
        d.due("clear", d.x.clear(0), true);
        asRested(d, "clear");
        d = rested(s);
        d.due("shut", d.x.shut(1, true), true);
        d.due("no route", d.x.routes(0), 0);
        asRested(d, "shut");
        d = rested(s);
        d.due("but", d.x.but(3), true);
        asRested(d, "but");
        d = rested(s);
        d.due("take", d.x.take(), 5);
        d.due("by take", d.x.saint(0, 5), 5);
        asRested(d, "take");
        d = rested(s);
        d.due("turn", d.x.turn(), 1);
        d.due("by turn", d.x.saint(0, 5), 5);
        asRested(d, "turn");
        refusedActs(s);
    }

    private static void refusedActs(Sentence s) {
        Desk d = s.city(LINE + "saint x at a pace 1 loud 0 petals 5; saint y at a pace 1 loud 0 petals 5;");
        d.x.rest(0, 1);
        d.x.rest(1, 3);
        d.due("clash", d.x.clash(0), 0);
        d.due("they can't both go", d.x.mend(), NONE);
        d.due("acts", d.x.has(9), 2);
        d = s.city(LINE + "saint x at a pace 1 loud 0 petals 5;");
        d.x.go(0, 1);
        d.x.shut(0, true);
        d.x.shut(1, true);
        d.due("no way at all", d.x.mend(), NONE);
        d.due("nor so", d.x.take(), NONE);
        d.due("nor so", d.x.turn(), 0);
        d.due("acts", d.x.has(9), 3);
        d = s.city("corner a parish 1; corner b parish 2; corner c parish 2; lane a b long 1 walls 1; lane a c long 2 walls 1;"
                + "saint x at a pace 1 loud 0 petals 5;");
        d.x.go(0, 1);
        d.x.shut(0, true);
        d.due("mend", d.x.mend(), 1);
        d.due("by c", d.x.saint(0, 6), 2);
        d.due("undo of mend", d.x.undo(), true);
        d.due("by b again", d.x.saint(0, 6), 1);
        d.due("shut still", d.x.has(7), 1);
        d.due("acts", d.x.has(9), 2);
    }

    private static void whereAndOnCalls() {
        Sentence s = new Sentence(15, "Where a SAINT is AT in a minute (0 .. 999; behind END where it ends); NONE when something can't be.");
        Desk d = walked(s);
        d.due("where 1 0", d.x.where(1, 0), 2);
        d.due("behind END", d.x.where(1, 10), 0);
        d.due("where 1 999", d.x.where(1, 999), 0);
        d.due("where 0 999", d.x.where(0, 999), 1);
        int[][] none = {{1, 1000}, {1, -1}, {2, 0}, {-1, 0}, {4, 0}, {1, MAX}, {1, MIN}, {MAX, 0}, {MIN, 0}};
        for (int[] n : none) {
            d.due("where " + n[0] + " " + n[1], d.x.where(n[0], n[1]), NONE);
        }
        d.x.clear(1);
        d.due("without steps", d.x.where(1, 0), 2);
        d.due("without steps", d.x.where(1, 999), 2);
        s = new Sentence(16, "The LANE on which a SAINT is ON in a minute; NONE without, or when something can't be.");
        d = walked(s);
        d.due("on 1 3", d.x.on(1, 3), 1);
        d.due("without, at first", d.x.on(1, 0), NONE);
        d.due("without, resting", d.x.on(1, 7), NONE);
        d.due("without, behind END", d.x.on(1, 10), NONE);
        d.due("without, 999", d.x.on(1, 999), NONE);
        for (int[] n : none) {
            d.due("on " + n[0] + " " + n[1], d.x.on(n[0], n[1]), NONE);
        }
        d.x.clear(1);
        d.due("without steps", d.x.on(1, 3), NONE);
        d = s.city("corner a parish 1; corner b parish 1; lane a b long 9 walls 0; saint s at a pace 5 loud 0 petals 0;");
        d.x.rest(0, 9);
        for (int i = 1; i <= 22; i++) {
            d.x.go(0, i % 2);
        }
        d.due("on 0 999", d.x.on(0, 999), 0);
        d.due("on 0 1000", d.x.on(0, 1000), NONE);
    }

    private static void petalsCall() {
        Sentence s = new Sentence(17, "SAINTS whose PETALS lie on a LANE in a minute (0 .. 999), as bits; NONE when something can't be.");
        Desk d = s.city(LINE + TextEdges.many(4, "saint s# at a pace 1 loud 0 petals 9;"));
        d.due("none", d.x.petals(0, 0), 0);
        for (int saint = 0; saint < 4; saint++) {
            d.x.go(saint, 1);
            d.due("petals 0 2", d.x.petals(0, 2), (2 << saint) - 1);
        }
        d.x.clear(1);
        d.due("petals 0 2", d.x.petals(0, 2), 13);
        d.due("petals 0 999", d.x.petals(0, 999), 0);
        int[][] none = {{0, 1000}, {0, -1}, {2, 0}, {-1, 0}, {16, 0}, {0, MAX}, {0, MIN}, {MAX, 0}, {MIN, 0}};
        for (int[] n : none) {
            d.due("petals " + n[0] + " " + n[1], d.x.petals(n[0], n[1]), NONE);
        }
    }

    private static void passesCall() {
        Sentence s = new Sentence(18, "The minute in which a SAINT comes first to a CORNER of a PARISH (0 at first, if it has STEPS); NONE "
                + "when never, or there are none such.");
        Desk d = s.city("corner a parish 1; corner b parish 2; corner c parish 9; corner d parish 2; corner e parish 8;"
                + "lane a b long 2 walls 3; lane b c long 3 walls 4; lane c d long 1 walls 0; saint x at a pace 1 loud 0 petals 0;");
        d.due("without steps", d.x.passes(0, 1), NONE);
        d.x.rest(0, 1);
        d.due("0 at first", d.x.passes(0, 1), 0);
        d.due("never", d.x.passes(0, 2), NONE);
        d.x.go(0, 1);
        d.x.go(0, 2);
        d.x.go(0, 3);
        d.x.go(0, 2);
        d.due("0 at first", d.x.passes(0, 1), 0);
        d.due("first by b", d.x.passes(0, 2), 3);
        d.due("first of two", d.x.passes(0, 9), 6);
        d.due("never", d.x.passes(0, 8), NONE);
        d.x.undo();
        d.x.undo();
        d.x.undo();
        d.due("never, since it was undone", d.x.passes(0, 9), NONE);
        int[][] none = {{0, 0}, {0, 3}, {0, 10}, {0, -1}, {0, MAX}, {0, MIN}, {1, 1}, {-1, 1}, {4, 1}, {MAX, 1}, {MIN, 1}};
        for (int[] n : none) {
            d.due("passes " + n[0] + " " + n[1], d.x.passes(n[0], n[1]), NONE);
        }
    }

    private static void clashCall() {
        Sentence s = new Sentence(19, "THE FIRST CLASH that is not EXCEPTED: its minute (what 0), sort (1), the SAINTS (2, 3). NONE without, "
                + "or for others.");
        Desk d = s.city(TWINS + "but minute < 2;");
        for (int what = -1; what <= 4; what++) {
            d.due("without " + what, d.x.clash(what), NONE);
        }
        d.x.rest(0, 3);
        d.x.rest(1, 3);
        isFirst(d, 0, 0, 0, 1);
        d.x.but(1);
        isFirst(d, 2, 0, 0, 1);
        int[] others = {4, 5, -1, MAX, MIN};
        for (int what : others) {
            d.due("clash " + what, d.x.clash(what), NONE);
        }
        d.x.clear(0);
        for (int what = 0; what <= 3; what++) {
            d.due("without " + what, d.x.clash(what), NONE);
        }
    }

    private static void clashesCall() {
        Sentence s = new Sentence(20, "CLASHES of drums (sort 0), of petals (1), EXCEPTED ones too, pair by pair, minute by minute; NONE for "
                + "others.");
        Desk d = s.city("corner a parish 1; corner b parish 1; lane a b long 2 walls 9; but all;"
                + TextEdges.many(4, "saint s# at a pace 1 loud 0 petals 9;"));
        int[] drums = {0, 3, 9, 18};
        int[] petals = {0, 1, 3, 6};
        for (int saint = 0; saint < 4; saint++) {
            d.x.go(saint, 1);
            d.due("drums", d.x.clashes(0), drums[saint]);
            d.due("petals", d.x.clashes(1), petals[saint]);
        }
        d.x.but(1);
        d.due("drums, excepted", d.x.clashes(0), 18);
        d.due("petals, excepted", d.x.clashes(1), 6);
        int[] others = {2, 3, -1, MAX, MIN};
        for (int sort : others) {
            d.due("clashes " + sort, d.x.clashes(sort), NONE);
        }
        d = s.city("corner a parish 1; corner b parish 1; lane a b long 2 walls 9; saint s at a pace 1 loud 0 petals 9;"
                + "saint t at a pace 1 loud 0 petals 9;");
        d.x.go(0, 1);
        d.x.go(0, 0);
        d.x.go(0, 1);
        d.x.rest(1, 6);
        d.x.go(1, 1);
        d.due("petals left three times count once a minute", d.x.clashes(1), 2);
    }

    private static void meetCall() {
        Sentence s = new Sentence(21, "The first minute in which two SAINTS CLASH (EXCEPTED or not); NONE when never, or there are none such.");
        Desk d = s.city(LINE + "saint s at a pace 1 loud 0 petals 3; saint t at c pace 1 loud 0 petals 0; but all;");
        d.due("without steps", d.x.meet(0, 1), NONE);
        d.x.go(0, 1);
        d.due("without steps of one", d.x.meet(0, 1), NONE);
        d.x.go(1, 1);
        d.due("not out any more", d.x.meet(0, 1), NONE);
        d.x.go(1, 0);
        d.due("by petals of 2 in 4", d.x.meet(0, 1), 4);
        d.due("the other way round", d.x.meet(1, 0), 4);
        d.x.rest(0, 1);
        d.due("by drums in 3", d.x.meet(0, 1), 3);
        d.x.but(1);
        d.due("excepted", d.x.meet(0, 1), 3);
        int[][] none = {{0, 0}, {1, 1}, {0, 2}, {2, 0}, {2, 3}, {-1, 0}, {0, -1}, {MAX, 0}, {0, MIN}};
        for (int[] n : none) {
            d.due("meet " + n[0] + " " + n[1], d.x.meet(n[0], n[1]), NONE);
        }
    }

    private static void pleasedCall() {
        Sentence s = new Sentence(22, "WORTH of all BALCONIES that are pleased.");
        Desk d = s.city(LINE + "saint s at a pace 1 loud 0 petals 0; saint t at a pace 1 loud 0 petals 0; balcony at a from 0 to 999 worth 1;"
                + "balcony at b from 0 to 999 worth 10; balcony at b from 2 to 2 worth 20; balcony at c from 0 to 999 worth 50;");
        d.due("none", d.x.pleased(), 0);
        d.x.go(0, 1);
        d.due("three", d.x.pleased(), 31);
        d.x.go(1, 1);
        d.due("once for both", d.x.pleased(), 31);
        d.x.go(1, 2);
        d.due("all", d.x.pleased(), 81);
        s.desk().due("in no city", s.desk().x.pleased(), 0);
        d = s.city("corner a parish 1; saint s at a pace 1 loud 0 petals 0;" + TextEdges.many(10, "balcony at a from 0 to 0 worth 99;"));
        d.x.rest(0, 1);
        d.due("ten of 99", d.x.pleased(), 990);
        d = s.city(LINE + TextEdges.many(4, "saint s# at a pace 1 loud 0 petals 0;") + "balcony at a from 0 to 0 worth 3;"
                + "balcony at c from 0 to 999 worth 4;");
        d.due("four saints, none out", d.x.pleased(), 0);
        d.x.rest(3, 1);
        d.due("the last of four", d.x.pleased(), 3);
    }

    private static void butCall() {
        Sentence s = new Sentence(23, "EXCEPTIONS (bits) are ON, no others: true; false when there are none such, or they are so already.");
        Desk d = s.city("but all; but all; but all;");
        d.due("none already", d.x.but(0), false);
        d.due("7", d.x.but(7), true);
        d.due("7 already", d.x.but(7), false);
        d.due("2", d.x.but(2), true);
        d.due("no others", d.x.has(8), 2);
        int[] none = {8, 10, 16, 64, -1, -8, MAX, MIN};
        for (int bits : none) {
            d.due("but " + bits, d.x.but(bits), false);
            d.due("on", d.x.has(8), 2);
        }
        d.due("acts", d.x.has(9), 2);
        d.due("0", d.x.but(0), true);
        d.due("on", d.x.has(8), 0);
        d = s.city(TextEdges.many(6, "but all;"));
        d.due("63 of six", d.x.but(63), true);
        d.due("64 of six", d.x.but(64), false);
        d = s.city("rain 1;");
        d.due("1 of none", d.x.but(1), false);
        d.due("0 of none", d.x.but(0), false);
    }

    private static void words() {
        Sentence s = new Sentence(24, "WORDS of an EXCEPTION; NONE when there is none such.");
        Desk d = s.city("but all; but not all;");
        d.due("words 0", d.x.words(0), 1);
        d.due("words 1", d.x.words(1), 2);
        int[] none = {2, 6, -1, MAX, MIN};
        for (int exception : none) {
            d.due("words " + exception, d.x.words(exception), NONE);
        }
        s = new Sentence(24, "(words and numbers as told behind but, signs not)");
        d = s.city("but not [ all ]; but (1) + 2 < min(3, far); but minute-0001<2*2/2; but not not all or all and all; rain 5;"
                + "but[[all]];");
        int[] due = {2, 5, 5, 7, 1};
        for (int exception = 0; exception < due.length; exception++) {
            d.due("words " + exception, d.x.words(exception), due[exception]);
        }
        d = s.city("but 0" + TextEdges.many(795, "+1") + "<5;");
        d.due("words of a long one", d.x.words(0), 797);
    }

    private static Desk resting(Sentence s, String exceptions) {
        Desk d = s.city(TWINS + exceptions);
        d.x.rest(0, 3);
        d.x.rest(1, 3);
        return d;
    }

    private static void softer() {
        Sentence s = new Sentence(25, "SOFTER: of sets of EXCEPTIONS by which the night would be LAWFUL (these ON, no others) those with the "
                + "fewest WORDS together (words and numbers as told behind but, signs not), then the least bits.");
        Desk d = resting(s, "but sort = 0 and all and all; but minute < 2; but minute > 1; but minute < 3;");
        d.due("four words of two", d.x.softer(0), 6);
        d.due("four words of two", d.x.softer(1), 4);
        d = resting(s, "but sort = 0 and all; but minute < 2; but minute > 1; but minute < 3;");
        d.due("the least bits of four words", d.x.softer(0), 1);
        d = resting(s, "but minute < 2; but minute > 1; but sort = 0 and all; but far = 0 and all;");
        d.due("the least bits of four words", d.x.softer(0), 3);
        d = resting(s, "but far = 0; but sort = 0; but all;");
        d.due("one word", d.x.softer(0), 4);
        d.x.but(3);
        d.due("whatever is on", d.x.softer(0), 4);
        d.due("one word", d.x.softer(1), 1);
        d = out(s.city("corner a parish 1; corner b parish 1; saint s at a pace 1 loud 0 petals 0; saint t at a pace 1 loud 0 petals 0;"
                + "saint u at b pace 1 loud 0 petals 0; saint v at b pace 1 loud 0 petals 0; but first = 2; but first = 0; but all and all;"), 4);
        d.due("of the first pair and the last", d.x.softer(0), 4);
        d.x.clear(3);
        d.due("of the first pair", d.x.softer(0), 2);
        d.x.undo();
        d.x.clear(0);
        d.due("of the last pair", d.x.softer(0), 1);
        d = resting(s, "but minute < 1; but minute = 1; but minute = 2; but minute = 3; but minute > 3; but not all;");
        d.due("one for each minute", d.x.softer(0), 15);
        d.due("one for each minute", d.x.softer(1), 8);
        s = new Sentence(25, "SOFTER: the EXCEPTIONS, as bits (what 0), their WORDS (1); NONE when there are none such, or for others.");
        d = s.city(TWINS + "but all;");
        d.due("lawful without", d.x.softer(0), 0);
        d.due("lawful without", d.x.softer(1), 0);
        int[] others = {2, 3, -1, MAX, MIN};
        for (int what : others) {
            d.due("softer " + what, d.x.softer(what), NONE);
        }
        d = resting(s, "but minute > 0;");
        d.due("none such", d.x.softer(0), NONE);
        d.due("none such", d.x.softer(1), NONE);
        d = resting(s, "");
        d.due("no exceptions", d.x.softer(0), NONE);
        d.due("no exceptions", d.x.softer(1), NONE);
    }

    private static void shutCall() {
        Sentence s = new Sentence(26, "A LANE is SHUT (or not) from now on (WAYS stay): true; false when there is none such, or it is so "
                + "already.");
        Desk d = s.city(LINE + "saint x at a pace 1 loud 0 petals 5;");
        d.x.go(0, 1);
        d.due("open already", d.x.shut(0, false), false);
        d.due("shut", d.x.shut(0, true), true);
        d.due("shut already", d.x.shut(0, true), false);
        d.due("ways stay", d.x.saint(0, 4), 1);
        d.due("ways stay", d.x.where(0, 2), 1);
        d.due("ways stay", d.x.on(0, 1), 0);
        d.due("petals stay", d.x.petals(0, 2), 1);
        d.due("no step from now on", d.x.go(0, 0), NONE);
        d.due("another lane", d.x.lane(1, 4), 0);
        int[] none = {2, -1, 16, 32, MAX, MIN};
        for (int lane : none) {
            d.due("shut " + lane, d.x.shut(lane, true), false);
            d.due("open " + lane, d.x.shut(lane, false), false);
        }
        d.due("acts", d.x.has(9), 2);
        d.due("open", d.x.shut(0, false), true);
        d.due("a step from now on", d.x.go(0, 0), 4);
    }

    private static void sweep() {
        Sentence s = new Sentence(27, "SWEPT: the fewest LANES without whose PETALS no CLASH of petals is not EXCEPTED: all on which there is "
                + "one.");
        String row = "corner a parish 1; corner b parish 1; corner c parish 1; corner d parish 1; lane c d long 1 walls 9;"
                + "lane b c long 1 walls 9; lane a b long 1 walls 9; saint s at a pace 1 loud 0 petals 99;"
                + "saint t at a pace 1 loud 0 petals 0; but minute = 6; but minute = 7; but sort = 0;";
        Desk d = swept(s.city(row));
        d.due("two", d.x.sweep(NONE), 2);
        d.x.but(1);
        d.due("minute 6 excepted", d.x.sweep(NONE), 1);
        d.due("lane 1", d.x.sweep(0), 1);
        d.x.but(2);
        d.due("minute 7 excepted", d.x.sweep(NONE), 1);
        d.due("lane 2", d.x.sweep(0), 2);
        d.x.but(4);
        d.due("drums do not count", d.x.sweep(NONE), 2);
        d.x.but(3);
        d.due("all excepted", d.x.sweep(NONE), 0);
        d = s.city("corner a parish 1; corner b parish 1; corner c parish 1; lane a b long 1 walls 9; lane c a long 1 walls 9;"
                + "saint p at b pace 1 loud 0 petals 0; saint q at b pace 1 loud 0 petals 0; saint r at a pace 1 loud 0 petals 3;"
                + "saint s at c pace 1 loud 0 petals 0;");
        d.x.go(2, 1);
        d.x.rest(3, 2);
        d.x.go(3, 0);
        d.due("none yet", d.x.sweep(NONE), 0);
        d.x.go(3, 1);
        d.due("petals of 1 to 3", d.x.sweep(NONE), 0);
        d.x.clear(3);
        d.x.rest(3, 1);
        d.x.go(3, 0);
        d.x.go(3, 1);
        d.due("the first lane", d.x.sweep(NONE), 1);
        d.due("the first lane", d.x.sweep(0), 0);
        d.due("without drums", d.x.clashes(0), 0);
        d = swept(s.city(row.replace("but sort = 0;", "") + "saint u at a pace 1 loud 0 petals 0; but second = 1;"));
        d.x.rest(2, 1);
        d.x.but(4);
        d.due("all of the first pair excepted, none of another one", d.x.sweep(NONE), 0);
        s = new Sentence(27, "SWEPT: how many LANES (k NONE), the k-th by numbers; NONE when there is none such.");
        d = s.city(row);
        d.due("none", d.x.sweep(NONE), 0);
        d.due("none", d.x.sweep(0), NONE);
        swept(d);
        d.due("two", d.x.sweep(NONE), 2);
        d.due("lane 1", d.x.sweep(0), 1);
        d.due("lane 2", d.x.sweep(1), 2);
        int[] none = {2, 3, 16, -2, MAX, MIN};
        for (int k : none) {
            d.due("sweep " + k, d.x.sweep(k), NONE);
        }
    }

    /** s strews lanes 2, 1, 0; t goes by lane 2 in minute 6, by lane 1 in minute 7. */
    private static Desk swept(Desk d) {
        d.x.go(0, 1);
        d.x.go(0, 2);
        d.x.go(0, 3);
        d.x.rest(1, 5);
        d.x.go(1, 1);
        d.x.go(1, 2);
        return d;
    }
}
