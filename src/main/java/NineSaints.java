import java.util.Arrays;

/** A night of saints carried through a walled city; README.md tells how it is used. */
public final class NineSaints {
    public static final int NONE = -1;

    private static final int MOST_BYTES = 1600;
    private static final int MOST_STATEMENTS = 70;
    private static final int MOST_CORNERS = 10;
    private static final int MOST_LANES = 16;
    private static final int MOST_SAINTS = 4;
    private static final int MOST_BALCONIES = 10;
    private static final int MOST_EXCEPTIONS = 6;
    private static final int MOST_STEPS = 24;
    private static final int MOST_REST = 30;
    private static final int MOST_UNDONE = 20;
    private static final int MOST_ROUTES = 20;
    private static final int MOST_OPEN = 6;
    private static final int NAME = 6;
    private static final int LAST_MINUTE = 999;
    private static final int MINUTES = 1000;
    private static final int UNHEARD = 999;
    private static final int PAIRS = 6;
    private static final int REST_CODE = 100;
    private static final int LATER = 5;

    private static final int CORNERS = 0;
    private static final int LANES = 1;
    private static final int SAINTS = 2;
    private static final int BALCONIES = 3;
    private static final int EXCEPTIONS = 4;

    // A lane, a saint and a balcony are four numbers each, in these places.
    private static final int SIZE = 4;
    private static final int LONG = 2;
    private static final int WALLS = 3;
    private static final int PACE = 1;
    private static final int LOUD = 2;
    private static final int STREWN = 3;
    private static final int FROM = 1;
    private static final int TO = 2;
    private static final int WORTH = 3;

    // What a test is made of: numbers stand for themselves, all else is below 0.
    private static final int ASK_MINUTE = -1;
    private static final int ASK_SECOND = -5;
    private static final int ADD = -6;
    private static final int SUBTRACT = -7;
    private static final int MULTIPLY = -8;
    private static final int DIVIDE = -9;
    private static final int LEAST = -10;
    private static final int GREATEST = -11;
    private static final int BELOW = -12;
    private static final int ABOVE = -13;
    private static final int LIKE = -14;
    private static final int NOT = -15;
    private static final int AND = -16;
    private static final int OR = -17;
    private static final int LIMIT = 1000000;

    private final City city = new City();
    private final City draft = new City();
    private final int[] tape = new int[MOST_BYTES];
    private final Reader reader = new Reader(draft, tape);
    private final Ways ways = new Ways(city);
    private final Meetings meetings = new Meetings(city);
    private final Custom custom = new Custom(city);
    private final Night night = new Night(city, ways, meetings, custom);
    private final Options options = new Options(city, ways, meetings, custom);
    private final Planner planner = new Planner(city, ways, options);
    private final Dawn dawns = new Dawn(city, options);
    private final int[] picture = new int[MOST_SAINTS * (MOST_STEPS + 1) + 4];
    private int taped;
    private int pictured;
    private int faultKind;
    private int faultPlace = NONE;

    public NineSaints() {
        city.empty();
        ways.begin();
    }

    public int feed(int a, int b, int c, int d, int e) {
        if (taped + 20 > MOST_BYTES) {
            return NONE;
        }
        tapeNumber(a);
        tapeNumber(b);
        tapeNumber(c);
        tapeNumber(d);
        tapeNumber(e);
        return taped;
    }

    private void tapeNumber(int number) {
        for (int shift = 24; shift >= 0 && taped < MOST_BYTES; shift -= 8) {
            tape[taped++] = number >>> shift & 255;
        }
    }

    public boolean end(int n) {
        if (n < 0 || n > taped) {
            return false;
        }
        taped = n;
        return true;
    }

    public int city() {
        reader.open(taped);
        taped = 0;
        int told = 0;
        boolean good = true;
        while (good && told <= MOST_STATEMENTS && reader.more()) {
            good = told < MOST_STATEMENTS ? reader.statement() : reader.fail(5, reader.at);
            told++;
        }
        faultKind = reader.faultKind;
        faultPlace = reader.faultPlace;
        if (!good) {
            return NONE;
        }
        draft.settle();
        city.copyFrom(draft);
        ways.begin();
        custom.forget();
        return told;
    }

    public int fault(int what) {
        switch (what) {
            case 0:
                return faultKind;
            case 1:
                return faultPlace;
            default:
                return NONE;
        }
    }

    public int has(int what) {
        switch (what) {
            case 0:
            case 1:
            case 2:
            case 3:
            case 4:
                return city.counts[what];
            case 5:
                return city.rain;
            case 6:
                return Integer.bitCount(city.parishBits);
            case 7:
                return Integer.bitCount(ways.shutBits());
            case 8:
                return ways.onBits();
            case 9:
                return ways.kept;
            default:
                return NONE;
        }
    }

    public int letter(int kind, int which, int k) {
        if (kind < 0 || kind > 1 || k < 0 || k >= NAME) {
            return NONE;
        }
        if (which < 0 || which >= city.counts[kind == 0 ? CORNERS : SAINTS]) {
            return NONE;
        }
        return (kind == 0 ? city.cornerNames : city.saintNames)[which * NAME + k];
    }

    public int lane(int lane, int what) {
        if (!isLane(lane) || what < 0 || what > SIZE) {
            return NONE;
        }
        return what < SIZE ? city.lanes[lane * SIZE + what] : ways.shutBits() >> lane & 1;
    }

    public int sound(int first, int second) {
        return isCorner(first) && isCorner(second) ? city.soundBetween[first * MOST_CORNERS + second] : NONE;
    }

    public int saint(int saint, int what) {
        if (!isSaint(saint)) {
            return NONE;
        }
        switch (what) {
            case 0:
            case 1:
            case 2:
            case 3:
                return city.saints[saint * SIZE + what];
            case 4:
                return ways.steps(saint);
            case 5:
                return ways.tracks[saint].finish;
            case 6:
                return ways.tracks[saint].lastCorner();
            default:
                return NONE;
        }
    }

    public int go(int saint, int corner) {
        return isSaint(saint) && isCorner(corner) ? ways.walk(saint, corner) : NONE;
    }

    public int rest(int saint, int minutes) {
        return isSaint(saint) && minutes >= 1 && minutes <= MOST_REST ? ways.pause(saint, minutes) : NONE;
    }

    public boolean clear(int saint) {
        return isSaint(saint) && ways.wipe(saint);
    }

    public boolean undo() {
        return ways.revert();
    }

    public int where(int saint, int minute) {
        return isSaint(saint) && isMinute(minute) ? ways.tracks[saint].cornerAt(minute) : NONE;
    }

    public int on(int saint, int minute) {
        return isSaint(saint) && isMinute(minute) ? ways.tracks[saint].laneAt(minute) : NONE;
    }

    public int petals(int lane, int minute) {
        if (!isLane(lane) || !isMinute(minute)) {
            return NONE;
        }
        int bits = 0;
        for (int saint = 0; saint < city.counts[SAINTS]; saint++) {
            bits |= (city.petalsOf(saint, ways.tracks[saint], 0, minute) >> lane & 1) << saint;
        }
        return bits;
    }

    public int passes(int saint, int parish) {
        return isSaint(saint) ? night.firstIn(saint, parish) : NONE;
    }

    public int clash(int what) {
        return what < 0 || what > 3 ? NONE : night.firstClash(what);
    }

    public int clashes(int sort) {
        return sort < 0 || sort > 1 ? NONE : night.tally(sort);
    }

    public int meet(int first, int second) {
        if (!isSaint(first) || !isSaint(second) || first == second) {
            return NONE;
        }
        return night.firstMeeting(Math.min(first, second), Math.max(first, second));
    }

    public int pleased() {
        return night.joy();
    }

    public boolean but(int bits) {
        return bits >= 0 && bits < 1 << city.counts[EXCEPTIONS] && ways.soften(bits);
    }

    public int words(int exception) {
        return exception < 0 || exception >= city.counts[EXCEPTIONS] ? NONE : city.wordCounts[exception];
    }

    public int softer(int what) {
        if (what < 0 || what > 1) {
            return NONE;
        }
        int bits = night.softest();
        return what == 0 || bits == NONE ? bits : city.wordsOf(bits);
    }

    public boolean shut(int lane, boolean is) {
        return isLane(lane) && ways.bar(lane, is);
    }

    public int sweep(int k) {
        int bits = night.foul();
        if (k == NONE) {
            return Integer.bitCount(bits);
        }
        int before = 0;
        for (int lane = 0; lane < MOST_LANES; lane++) {
            if ((bits >> lane & 1) != 0 && before++ == k) {
                return lane;
            }
        }
        return NONE;
    }

    public int routes(int saint) {
        return isSaint(saint) ? options.routesOf(saint) : NONE;
    }

    public int route(int saint, int route, int k) {
        if (!isSaint(saint) || route < 0 || route >= options.routesOf(saint)) {
            return NONE;
        }
        Track track = options.tracks[saint * MOST_ROUTES + route];
        return k < 0 || k >= track.points ? NONE : track.corner[k];
    }

    public int together(int k) {
        int ends = planner.solve(allSaints(), false);
        if (k == NONE || ends == NONE) {
            return ends;
        }
        return isSaint(k) ? planner.best[k] - 1 : NONE;
    }

    public int bars() {
        int all = allSaints();
        for (int fewest = 0; fewest <= MOST_SAINTS; fewest++) {
            for (int bits = 0; bits <= all; bits++) {
                if (Integer.bitCount(bits) == fewest && planner.solve(all & ~bits, false) != NONE) {
                    return bits;
                }
            }
        }
        return all;
    }

    public int take() {
        int ends = planner.solve(allSaints(), false);
        if (ends == NONE || city.counts[SAINTS] == 0) {
            return NONE;
        }
        ways.keep();
        ways.commit();
        planner.carryOut();
        return ends;
    }

    public int mend() {
        if (planner.solve(allSaints(), true) == NONE) {
            return NONE;
        }
        ways.keep();
        int changed = planner.carryOut();
        if (changed > 0) {
            ways.commit();
        }
        return changed;
    }

    public int turn() {
        ways.keep();
        int took = 0;
        for (int saint = 0; saint < city.counts[SAINTS]; saint++) {
            if (planner.takeTurn(saint)) {
                took++;
            }
        }
        if (took > 0) {
            ways.commit();
        }
        return took;
    }

    public int lots(int saint) {
        if (!isSaint(saint)) {
            return NONE;
        }
        int lucky = 0;
        for (int code = 0; code < 256; code++) {
            if (planner.drawOrder(code) && planner.luckyIn(saint)) {
                lucky++;
            }
        }
        return lucky;
    }

    public int dawn(int lanes, int minute, int what) {
        if (lanes < 0 || lanes >= 1 << city.counts[LANES] || !isMinute(minute)) {
            return NONE;
        }
        if (what < 0 || what > 2 || city.counts[SAINTS] > Dawn.MOST) {
            return NONE;
        }
        dawns.look(lanes, minute);
        switch (what) {
            case 0:
                return dawns.nights;
            case 1:
                return dawns.nights == 0 ? 0 : dawns.alwaysGone;
            default:
                return dawns.nights == 0 ? 0 : allSaints() & ~dawns.sometimesOut;
        }
    }

    public int image() {
        pictured = ways.draw(picture);
        return pictured;
    }

    public int octet(int k) {
        return k < 0 || k >= pictured ? NONE : picture[k];
    }

    public boolean back() {
        int length = taped;
        taped = 0;
        return ways.accept(tape, length);
    }

    private boolean isCorner(int corner) {
        return corner >= 0 && corner < city.counts[CORNERS];
    }

    private boolean isLane(int lane) {
        return lane >= 0 && lane < city.counts[LANES];
    }

    private boolean isSaint(int saint) {
        return saint >= 0 && saint < city.counts[SAINTS];
    }

    private boolean isMinute(int minute) {
        return minute >= 0 && minute <= LAST_MINUTE;
    }

    private int allSaints() {
        return (1 << city.counts[SAINTS]) - 1;
    }

    /** The pairs 01, 02, 03, 12, 13, 23 by numbers. */
    private static int pairOf(int lesser, int greater) {
        return lesser * (7 - lesser) / 2 + greater - lesser - 1;
    }

    /** What a text tells: nothing of it changes until the next text. */
    private static final class City {
        final int[] counts = new int[5];
        final int[] cornerNames = new int[MOST_CORNERS * NAME];
        final int[] saintNames = new int[MOST_SAINTS * NAME];
        final int[] parish = new int[MOST_CORNERS];
        final int[] lanes = new int[MOST_LANES * SIZE];
        final int[] saints = new int[MOST_SAINTS * SIZE];
        final int[] balconies = new int[MOST_BALCONIES * SIZE];
        final int[] code = new int[MOST_BYTES];
        final int[] codeEnds = new int[MOST_EXCEPTIONS + 1];
        final int[] wordCounts = new int[MOST_EXCEPTIONS];
        final int[] laneBetween = new int[MOST_CORNERS * MOST_CORNERS];
        final int[] soundBetween = new int[MOST_CORNERS * MOST_CORNERS];
        int parishBits;
        int rain = NONE;

        void empty() {
            Arrays.fill(counts, 0);
            Arrays.fill(laneBetween, NONE);
            codeEnds[0] = 0;
            parishBits = 0;
            rain = NONE;
        }

        void copyFrom(City other) {
            copyRow(other.counts, counts);
            copyRow(other.cornerNames, cornerNames);
            copyRow(other.saintNames, saintNames);
            copyRow(other.parish, parish);
            copyRow(other.lanes, lanes);
            copyRow(other.saints, saints);
            copyRow(other.balconies, balconies);
            copyRow(other.code, code);
            copyRow(other.codeEnds, codeEnds);
            copyRow(other.wordCounts, wordCounts);
            copyRow(other.laneBetween, laneBetween);
            copyRow(other.soundBetween, soundBetween);
            parishBits = other.parishBits;
            rain = other.rain;
        }

        private void copyRow(int[] from, int[] to) {
            System.arraycopy(from, 0, to, 0, Math.min(from.length, to.length));
        }

        void addLane(int first, int second, int size, int walls) {
            int lane = counts[LANES]++;
            lanes[lane * SIZE] = first;
            lanes[lane * SIZE + 1] = second;
            lanes[lane * SIZE + LONG] = size;
            lanes[lane * SIZE + WALLS] = walls;
            laneBetween[first * MOST_CORNERS + second] = lane;
            laneBetween[second * MOST_CORNERS + first] = lane;
        }

        /** What follows from the whole text: what is heard between corners, and the parishes. */
        void settle() {
            Arrays.fill(soundBetween, UNHEARD);
            for (int corner = 0; corner < counts[CORNERS]; corner++) {
                soundBetween[corner * MOST_CORNERS + corner] = 0;
                parishBits |= 1 << parish[corner];
            }
            for (int lane = 0; lane < counts[LANES]; lane++) {
                int first = lanes[lane * SIZE];
                int second = lanes[lane * SIZE + 1];
                soundBetween[first * MOST_CORNERS + second] = lanes[lane * SIZE + WALLS];
                soundBetween[second * MOST_CORNERS + first] = lanes[lane * SIZE + WALLS];
            }
            for (int middle = 0; middle < counts[CORNERS]; middle++) {
                hearThrough(middle);
            }
        }

        private void hearThrough(int middle) {
            for (int from = 0; from < counts[CORNERS]; from++) {
                int near = soundBetween[from * MOST_CORNERS + middle];
                for (int to = 0; near < UNHEARD && to < counts[CORNERS]; to++) {
                    int there = near + soundBetween[middle * MOST_CORNERS + to];
                    if (there < soundBetween[from * MOST_CORNERS + to]) {
                        soundBetween[from * MOST_CORNERS + to] = there;
                    }
                }
            }
        }

        int greaterLoud(int first, int second) {
            return Math.max(saints[first * SIZE + LOUD], saints[second * SIZE + LOUD]);
        }

        int minutesOf(int saint, int lane) {
            return lanes[lane * SIZE + LONG] * saints[saint * SIZE + PACE];
        }

        /** The last minute of petals that came in a minute; below that one if there are none. */
        int lastPetals(int saint, int came) {
            int last = came + saints[saint * SIZE + STREWN] - 1;
            return came < rain ? Math.min(last, rain - 1) : last;
        }

        /** The lanes, as bits, on which a saint's petals lie in a minute. */
        int petalsOf(int saint, Track track, int late, int minute) {
            int bits = 0;
            for (int i = 1; i < track.points; i++) {
                int came = track.come[i] + late;
                if (came <= minute && minute <= lastPetals(saint, came)) {
                    bits |= 1 << track.lane[i];
                }
            }
            return bits;
        }

        int wordsOf(int bits) {
            int words = 0;
            for (int exception = 0; exception < counts[EXCEPTIONS]; exception++) {
                if ((bits >> exception & 1) != 0) {
                    words += wordCounts[exception];
                }
            }
            return words;
        }
    }

    /** Reads a text into a draft of a city, or finds its first fault. */
    private static final class Reader {
        private static final int OWN_WIDTH = 8;
        // All own words in one text, each of like width: LANGUAGE.md allows no static row of texts.
        private static final String OWN = "corner  parish  lane    long    walls   saint   at      pace    loud    petals  balcony from    to      worth   but     rain    or      and     not     all     minute  sort    far     first   second  min     max     ";
        private static final int W_CORNER = 0;
        private static final int W_PARISH = 1;
        private static final int W_LANE = 2;
        private static final int W_LONG = 3;
        private static final int W_WALLS = 4;
        private static final int W_SAINT = 5;
        private static final int W_AT = 6;
        private static final int W_PACE = 7;
        private static final int W_LOUD = 8;
        private static final int W_PETALS = 9;
        private static final int W_BALCONY = 10;
        private static final int W_FROM = 11;
        private static final int W_TO = 12;
        private static final int W_WORTH = 13;
        private static final int W_BUT = 14;
        private static final int W_RAIN = 15;
        private static final int W_OR = 16;
        private static final int W_AND = 17;
        private static final int W_NOT = 18;
        private static final int W_ALL = 19;
        private static final int W_MINUTE = 20;
        private static final int W_SECOND = 24;
        private static final int W_MIN = 25;
        private static final int W_MAX = 26;
        // The kinds of all other tokens, behind those of own words.
        private static final int WORD = 27;
        private static final int NUMBER = 28;
        private static final int SIGN = 29;
        private static final int END = 30;

        final City city;
        final int[] text;
        final int[] starts = new int[MOST_BYTES + 1];
        final int[] stops = new int[MOST_BYTES + 1];
        final int[] kinds = new int[MOST_BYTES + 1];
        int next;
        int at;
        int after;
        int kind;
        boolean joined;
        int value;
        int told;
        int written;
        int faultKind;
        int faultPlace;

        Reader(City city, int[] text) {
            this.city = city;
            this.text = text;
        }

        void open(int bytes) {
            cut(Math.min(bytes, MOST_BYTES));
            next = 0;
            after = 0;
            kind = SIGN;
            written = 0;
            faultKind = 0;
            faultPlace = NONE;
            city.empty();
            advance();
        }

        /** Cuts the text into tokens; behind them stands the end, at the text's length. */
        private void cut(int length) {
            int count = 0;
            int place = 0;
            while (place < length) {
                int start = place;
                int sign = text[place++];
                if (sign == 10 || sign == 32) {
                    continue;
                }
                int which = SIGN;
                if (sign >= 'a' && sign <= 'z') {
                    while (place < length && text[place] >= 'a' && text[place] <= 'z') {
                        place++;
                    }
                    which = kindOfWord(start, place);
                } else if (sign >= '0' && sign <= '9') {
                    while (place < length && text[place] >= '0' && text[place] <= '9') {
                        place++;
                    }
                    which = NUMBER;
                }
                starts[count] = start;
                stops[count] = place;
                kinds[count++] = which;
            }
            starts[count] = length;
            stops[count] = length;
            kinds[count] = END;
        }

        private int kindOfWord(int start, int stop) {
            int size = stop - start;
            for (int word = 0; word <= W_MAX && size < OWN_WIDTH; word++) {
                int same = 0;
                while (same < size && OWN.charAt(word * OWN_WIDTH + same) == text[start + same]) {
                    same++;
                }
                if (same == size && OWN.charAt(word * OWN_WIDTH + same) == ' ') {
                    return word;
                }
            }
            return WORD;
        }

        /** To the next token; one that should have a blank ahead and has none is joined. */
        private void advance() {
            boolean needsBlank = kind <= NUMBER;
            int before = after;
            if (needsBlank) {
                told++;
            }
            kind = kinds[next];
            at = starts[next];
            after = stops[next];
            joined = needsBlank && at == before && kind <= NUMBER;
            if (kind != END) {
                next++;
            }
        }

        boolean more() {
            return kind != END;
        }

        boolean fail(int fault, int place) {
            faultKind = fault;
            faultPlace = place;
            return false;
        }

        boolean statement() {
            boolean good;
            switch (kind) {
                case W_CORNER:
                    good = tellCorner();
                    break;
                case W_LANE:
                    good = tellLane();
                    break;
                case W_SAINT:
                    good = tellSaint();
                    break;
                case W_BALCONY:
                    good = tellBalcony();
                    break;
                case W_BUT:
                    good = !full(EXCEPTIONS, MOST_EXCEPTIONS) && test(0) && exceptionStands();
                    break;
                case W_RAIN:
                    advance();
                    good = number(0, LAST_MINUTE);
                    city.rain = value;
                    break;
                default:
                    good = fail(1, at);
            }
            return good && sign(';');
        }

        /** Goes past the word that begins a statement, if one more of its kind can be. */
        private boolean full(int which, int most) {
            if (city.counts[which] >= most) {
                fail(5, at);
                return true;
            }
            advance();
            told = 0;
            return false;
        }

        private boolean tellCorner() {
            if (full(CORNERS, MOST_CORNERS)) {
                return false;
            }
            int corner = city.counts[CORNERS];
            if (!newName(city.cornerNames, corner) || !word(W_PARISH) || !number(1, 9)) {
                return false;
            }
            city.parish[corner] = value;
            city.counts[CORNERS]++;
            return true;
        }

        private boolean tellLane() {
            if (full(LANES, MOST_LANES)) {
                return false;
            }
            int first = askedCorner(NONE);
            if (first == NONE) {
                return false;
            }
            int second = askedCorner(first);
            if (second == NONE || !word(W_LONG) || !number(1, 9)) {
                return false;
            }
            int size = value;
            if (!word(W_WALLS) || !number(0, 9)) {
                return false;
            }
            city.addLane(first, second, size, value);
            return true;
        }

        private boolean tellSaint() {
            if (full(SAINTS, MOST_SAINTS)) {
                return false;
            }
            int saint = city.counts[SAINTS];
            if (!newName(city.saintNames, saint) || !word(W_AT)) {
                return false;
            }
            int corner = askedCorner(NONE);
            city.saints[saint * SIZE] = corner;
            if (corner == NONE || !word(W_PACE) || !number(1, 5)) {
                return false;
            }
            city.saints[saint * SIZE + PACE] = value;
            if (!word(W_LOUD) || !number(0, 20)) {
                return false;
            }
            city.saints[saint * SIZE + LOUD] = value;
            if (!word(W_PETALS) || !number(0, 99)) {
                return false;
            }
            city.saints[saint * SIZE + STREWN] = value;
            city.counts[SAINTS]++;
            return true;
        }

        private boolean tellBalcony() {
            if (full(BALCONIES, MOST_BALCONIES) || !word(W_AT)) {
                return false;
            }
            int place = city.counts[BALCONIES] * SIZE;
            int corner = askedCorner(NONE);
            city.balconies[place] = corner;
            if (corner == NONE || !word(W_FROM) || !number(0, LAST_MINUTE)) {
                return false;
            }
            city.balconies[place + FROM] = value;
            if (!word(W_TO) || !number(value, LAST_MINUTE)) {
                return false;
            }
            city.balconies[place + TO] = value;
            if (!word(W_WORTH) || !number(1, 99)) {
                return false;
            }
            city.balconies[place + WORTH] = value;
            city.counts[BALCONIES]++;
            return true;
        }

        private boolean exceptionStands() {
            int exception = city.counts[EXCEPTIONS]++;
            city.wordCounts[exception] = told;
            city.codeEnds[exception + 1] = written;
            return true;
        }

        private boolean word(int wanted) {
            if (kind != wanted || joined) {
                return fail(1, at);
            }
            advance();
            return true;
        }

        private boolean isSign(int wanted) {
            return kind == SIGN && text[at] == wanted;
        }

        private boolean sign(int wanted) {
            if (!isSign(wanted)) {
                return fail(1, at);
            }
            advance();
            return true;
        }

        private boolean number(int least, int most) {
            if (kind != NUMBER || joined) {
                return fail(1, at);
            }
            if (after - at > 4) {
                return fail(1, at + 4);
            }
            value = 0;
            for (int i = at; i < after; i++) {
                value = value * 10 + text[i] - '0';
            }
            if (value < least || value > most) {
                return fail(2, at);
            }
            advance();
            return true;
        }

        private boolean nameStands() {
            if (kind != WORD || joined) {
                return fail(1, at);
            }
            return after - at <= NAME || fail(1, at + NAME);
        }

        private int letterOfToken(int k) {
            return at + k < after ? text[at + k] - 'a' + 1 : 0;
        }

        private int named(int[] names, int count) {
            for (int which = 0; which < count; which++) {
                int same = 0;
                while (same < NAME && names[which * NAME + same] == letterOfToken(same)) {
                    same++;
                }
                if (same == NAME) {
                    return which;
                }
            }
            return NONE;
        }

        private boolean newName(int[] names, int which) {
            if (!nameStands()) {
                return false;
            }
            if (named(city.cornerNames, city.counts[CORNERS]) != NONE
                    || named(city.saintNames, city.counts[SAINTS]) != NONE) {
                return fail(3, at);
            }
            for (int k = 0; k < NAME; k++) {
                names[which * NAME + k] = letterOfToken(k);
            }
            advance();
            return true;
        }

        /** A corner that is there; behind another corner of a lane, one to which there is no lane yet. */
        private int askedCorner(int first) {
            if (!nameStands()) {
                return NONE;
            }
            int corner = named(city.cornerNames, city.counts[CORNERS]);
            boolean taken = first != NONE && corner != NONE
                    && (corner == first || city.laneBetween[first * MOST_CORNERS + corner] != NONE);
            if (corner == NONE || taken) {
                fail(3, at);
                return NONE;
            }
            advance();
            return corner;
        }

        private void emit(int code) {
            if (written < city.code.length) {
                city.code[written++] = code;
            }
        }

        private boolean test(int open) {
            boolean andWaits = false;
            boolean orWaits = false;
            for (int facts = 0; facts < MOST_BYTES; facts++) {
                if (!fact(open)) {
                    return false;
                }
                if (andWaits) {
                    emit(AND);
                }
                andWaits = kind == W_AND && !joined;
                if (!andWaits) {
                    if (orWaits) {
                        emit(OR);
                    }
                    orWaits = kind == W_OR && !joined;
                    if (!orWaits) {
                        return true;
                    }
                }
                advance();
            }
            return fail(1, at);
        }

        private boolean fact(int open) {
            if (kind == W_NOT) {
                if (!roomIn(open)) {
                    return false;
                }
                advance();
                boolean good = fact(open + 1);
                emit(NOT);
                return good;
            }
            if (isSign('[')) {
                return roomIn(open) && sign('[') && test(open + 1) && sign(']');
            }
            if (kind == W_ALL) {
                emit(1);
                advance();
                return true;
            }
            if (!sum(open)) {
                return false;
            }
            int compare = isSign('<') ? BELOW : isSign('>') ? ABOVE : isSign('=') ? LIKE : 0;
            if (compare == 0) {
                return fail(1, at);
            }
            advance();
            boolean good = sum(open);
            emit(compare);
            return good;
        }

        private boolean roomIn(int open) {
            return open < MOST_OPEN || fail(4, at);
        }

        private boolean sum(int open) {
            int product = 0;
            int addition = 0;
            for (int parts = 0; parts < MOST_BYTES; parts++) {
                if (!part(open)) {
                    return false;
                }
                if (product != 0) {
                    emit(product);
                }
                product = isSign('*') ? MULTIPLY : isSign('/') ? DIVIDE : 0;
                if (product == 0) {
                    if (addition != 0) {
                        emit(addition);
                    }
                    addition = isSign('+') ? ADD : isSign('-') ? SUBTRACT : 0;
                    if (addition == 0) {
                        return true;
                    }
                }
                advance();
            }
            return fail(1, at);
        }

        private boolean part(int open) {
            if (isSign('(')) {
                return roomIn(open) && sign('(') && sum(open + 1) && sign(')');
            }
            if (kind >= W_MINUTE && kind <= W_SECOND) {
                emit(ASK_MINUTE - (kind - W_MINUTE));
                advance();
                return true;
            }
            if (kind == W_MIN || kind == W_MAX) {
                int choice = kind == W_MIN ? LEAST : GREATEST;
                advance();
                boolean opened = isSign('(') ? roomIn(open) && sign('(') : fail(1, at);
                boolean good = opened && sum(open + 1) && sign(',') && sum(open + 1) && sign(')');
                emit(choice);
                return good;
            }
            boolean good = number(0, 9999);
            emit(value);
            return good;
        }
    }

    /** Where one goes and when: points in a row, the lane that led to each, rests between. */
    private static final class Track {
        final int[] corner;
        final int[] lane;
        final int[] leave;
        final int[] come;
        int points;
        int finish;
        int laneBits;
        boolean stepped;

        Track(int room) {
            corner = new int[room];
            lane = new int[room];
            leave = new int[room];
            come = new int[room];
        }

        void start(int home) {
            if (corner.length > 0) {
                corner[0] = home;
                lane[0] = NONE;
                points = 1;
            }
            finish = 0;
            laneBits = 0;
            stepped = false;
        }

        void walkBy(int by, int to, int minutes) {
            if (points < corner.length) {
                corner[points] = to;
                lane[points] = by;
                leave[points] = finish;
                finish += minutes;
                come[points] = finish;
                points++;
                laneBits |= 1 << by;
                stepped = true;
            }
        }

        void stay(int minutes) {
            finish += minutes;
            stepped = true;
        }

        int lastCorner() {
            return points > 0 && points <= corner.length ? corner[points - 1] : 0;
        }

        int cornerAt(int minute) {
            int last = 0;
            for (int i = 1; i < points && come[i] <= minute; i++) {
                last = i;
            }
            return corner[last];
        }

        int laneAt(int minute) {
            for (int i = 1; i < points; i++) {
                if (leave[i] < minute && minute <= come[i]) {
                    return lane[i];
                }
            }
            return NONE;
        }
    }

    /** The night as it is told now, and what it was ahead of the latest acts. */
    private static final class Ways {
        private static final int STEPS = MOST_SAINTS;
        private static final int SHUT = STEPS + MOST_SAINTS * MOST_STEPS;
        private static final int ON = SHUT + 1;
        private static final int ROW = ON + 1;
        // One more than can be undone, so that an act that comes to nothing overwrites none of them.
        private static final int SLOTS = MOST_UNDONE + 1;

        final City city;
        final int[] now = new int[ROW];
        final int[] trial = new int[ROW];
        final int[] past = new int[SLOTS * ROW];
        final Track[] tracks = new Track[MOST_SAINTS];
        int oldest;
        int kept;
        boolean newWays = true;
        boolean newLanes = true;
        boolean newCustom = true;

        Ways(City city) {
            this.city = city;
            for (int saint = 0; saint < MOST_SAINTS; saint++) {
                tracks[saint] = new Track(MOST_STEPS + 1);
            }
        }

        void begin() {
            Arrays.fill(now, 0);
            kept = 0;
            replayAll();
        }

        int steps(int saint) {
            return now[saint];
        }

        int shutBits() {
            return now[SHUT];
        }

        int onBits() {
            return now[ON];
        }

        boolean blocked(int saint) {
            return (tracks[saint].laneBits & now[SHUT]) != 0;
        }

        private void replayAll() {
            for (int saint = 0; saint < city.counts[SAINTS]; saint++) {
                replay(saint);
            }
            newWays = true;
            newLanes = true;
            newCustom = true;
        }

        private void replay(int saint) {
            Track track = tracks[saint];
            track.start(city.saints[saint * SIZE]);
            for (int k = 0; k < now[saint] && k < MOST_STEPS; k++) {
                int step = now[STEPS + saint * MOST_STEPS + k];
                if (step > REST_CODE) {
                    track.stay(step - REST_CODE);
                } else {
                    int lane = laneTo(track.lastCorner(), step);
                    if (lane != NONE) {
                        track.walkBy(lane, step, city.minutesOf(saint, lane));
                    }
                }
            }
        }

        private int laneTo(int from, int to) {
            return to < 0 || to >= city.counts[CORNERS] ? NONE : city.laneBetween[from * MOST_CORNERS + to];
        }

        /** Remembers the night as it is; commit() makes it one that can come back. */
        void keep() {
            System.arraycopy(now, 0, past, (oldest + kept) % SLOTS * ROW, ROW);
        }

        void commit() {
            if (kept < MOST_UNDONE) {
                kept++;
            } else {
                oldest = (oldest + 1) % SLOTS;
            }
        }

        boolean revert() {
            if (kept == 0) {
                return false;
            }
            kept--;
            System.arraycopy(past, (oldest + kept) % SLOTS * ROW, now, 0, ROW);
            replayAll();
            return true;
        }

        private void addStep(int saint, int step) {
            keep();
            commit();
            now[STEPS + saint * MOST_STEPS + now[saint]] = step;
            now[saint]++;
            newWays = true;
        }

        int walk(int saint, int corner) {
            Track track = tracks[saint];
            int lane = laneTo(track.lastCorner(), corner);
            if (now[saint] >= MOST_STEPS || lane == NONE || (now[SHUT] >> lane & 1) != 0) {
                return NONE;
            }
            int minutes = city.minutesOf(saint, lane);
            if (track.finish + minutes > LAST_MINUTE) {
                return NONE;
            }
            addStep(saint, corner);
            track.walkBy(lane, corner, minutes);
            return track.finish;
        }

        int pause(int saint, int minutes) {
            Track track = tracks[saint];
            if (now[saint] >= MOST_STEPS || track.finish + minutes > LAST_MINUTE) {
                return NONE;
            }
            addStep(saint, REST_CODE + minutes);
            track.stay(minutes);
            return track.finish;
        }

        boolean wipe(int saint) {
            if (now[saint] == 0) {
                return false;
            }
            keep();
            commit();
            now[saint] = 0;
            replay(saint);
            newWays = true;
            return true;
        }

        boolean bar(int lane, boolean is) {
            if ((now[SHUT] >> lane & 1) != 0 == is) {
                return false;
            }
            keep();
            commit();
            now[SHUT] ^= 1 << lane;
            newLanes = true;
            return true;
        }

        boolean soften(int bits) {
            if (now[ON] == bits) {
                return false;
            }
            keep();
            commit();
            now[ON] = bits;
            newCustom = true;
            return true;
        }

        void adopt(int saint, Track route, int late) {
            int first = STEPS + saint * MOST_STEPS;
            int steps = 0;
            if (late > 0) {
                now[first + steps++] = REST_CODE + late;
            }
            for (int i = 1; i < route.points; i++) {
                now[first + steps++] = route.corner[i];
            }
            now[saint] = steps;
            replay(saint);
            newWays = true;
        }

        int draw(int[] bytes) {
            int length = 0;
            for (int saint = 0; saint < city.counts[SAINTS]; saint++) {
                bytes[length++] = now[saint];
                for (int k = 0; k < now[saint]; k++) {
                    bytes[length++] = now[STEPS + saint * MOST_STEPS + k];
                }
            }
            bytes[length++] = now[SHUT] >> 8;
            bytes[length++] = now[SHUT] & 255;
            bytes[length++] = now[ON];
            bytes[length] = sumOf(bytes, length);
            return length + 1;
        }

        private int sumOf(int[] bytes, int length) {
            int sum = 83;
            for (int i = 0; i < length; i++) {
                sum = (3 * sum + bytes[i]) % 247;
            }
            return sum;
        }

        boolean accept(int[] bytes, int length) {
            Arrays.fill(trial, 0);
            int place = 0;
            for (int saint = 0; saint < city.counts[SAINTS] && place != NONE; saint++) {
                place = tryWay(saint, bytes, place, length);
            }
            if (place == NONE || place + 4 != length) {
                return false;
            }
            trial[SHUT] = bytes[place] << 8 | bytes[place + 1];
            trial[ON] = bytes[place + 2];
            if (trial[SHUT] >= 1 << city.counts[LANES] || trial[ON] >= 1 << city.counts[EXCEPTIONS]
                    || bytes[place + 3] != sumOf(bytes, place + 3)) {
                return false;
            }
            System.arraycopy(trial, 0, now, 0, ROW);
            kept = 0;
            replayAll();
            return true;
        }

        /** The place behind a saint's steps in an image, if they can be. */
        private int tryWay(int saint, int[] bytes, int place, int length) {
            if (place >= length || bytes[place] > MOST_STEPS || place + bytes[place] >= length) {
                return NONE;
            }
            int here = city.saints[saint * SIZE];
            int finish = 0;
            trial[saint] = bytes[place];
            for (int k = 0; k < trial[saint]; k++) {
                int step = bytes[place + 1 + k];
                if (step > REST_CODE && step <= REST_CODE + MOST_REST) {
                    finish += step - REST_CODE;
                } else {
                    int lane = laneTo(here, step);
                    if (lane == NONE) {
                        return NONE;
                    }
                    finish += city.minutesOf(saint, lane);
                    here = step;
                }
                trial[STEPS + saint * MOST_STEPS + k] = step;
            }
            return finish > LAST_MINUTE ? NONE : place + 1 + trial[saint];
        }
    }

    /** The spans of minutes in which two saints clash, told anew by each scan. */
    private static final class Meetings {
        private static final int SPANS = 2 * MOST_STEPS * MOST_STEPS + 2 * MOST_STEPS + 1;
        /** Drums have their sound for a slot, petals have this one behind all sounds. */
        private static final int OF_PETALS = 21;

        final City city;
        final int[] from = new int[SPANS];
        final int[] to = new int[SPANS];
        final int[] slot = new int[SPANS];
        final int[] lane = new int[SPANS];
        int count;
        int most;
        int lesser;
        int greater;

        Meetings(City city) {
            this.city = city;
        }

        void scanAll(int first, int second, Track[] tracks) {
            most = SPANS;
            scan(first, tracks[first], 0, second, tracks[second], 0);
        }

        void scan(int first, Track a, int lateA, int second, Track b, int lateB) {
            lesser = first;
            greater = second;
            count = 0;
            if (!a.stepped && lateA == 0 || !b.stepped && lateB == 0) {
                return;
            }
            drums(city.greaterLoud(first, second), a, lateA, b, lateB);
            if ((a.laneBits & b.laneBits) != 0) {
                trodden(a, lateA, second, b, lateB);
                trodden(b, lateB, first, a, lateA);
            }
        }

        private void drums(int loud, Track a, int lateA, Track b, int lateB) {
            int last = Math.min(a.finish + lateA, b.finish + lateB);
            int i = 0;
            int j = 0;
            int start = 0;
            while (start <= last && count < most && i < a.points && j < b.points) {
                int nextA = i + 1 < a.points ? a.come[i + 1] + lateA : last + 1;
                int nextB = j + 1 < b.points ? b.come[j + 1] + lateB : last + 1;
                int stop = Math.min(last, Math.min(nextA, nextB) - 1);
                int far = city.soundBetween[a.corner[i] * MOST_CORNERS + b.corner[j]];
                if (far <= loud) {
                    add(start, stop, far, NONE);
                }
                start = stop + 1;
                if (nextA == start) {
                    i++;
                }
                if (nextB == start) {
                    j++;
                }
            }
        }

        private void trodden(Track walker, int late, int strewer, Track strewn, int strewnLate) {
            for (int i = 1; i < walker.points; i++) {
                if ((strewn.laneBits >> walker.lane[i] & 1) == 0) {
                    continue;
                }
                for (int j = 1; j < strewn.points && count < most; j++) {
                    if (strewn.lane[j] == walker.lane[i]) {
                        int came = strewn.come[j] + strewnLate;
                        int start = Math.max(walker.leave[i] + late + 1, came);
                        int stop = Math.min(walker.come[i] + late, city.lastPetals(strewer, came));
                        if (start <= stop) {
                            add(start, stop, OF_PETALS, walker.lane[i]);
                        }
                    }
                }
            }
        }

        private void add(int start, int stop, int which, int by) {
            if (count < SPANS) {
                from[count] = start;
                to[count] = stop;
                slot[count] = which;
                lane[count] = by;
                count++;
            }
        }
    }

    /** Which exceptions hold for a clash; what was found once is kept until the next city. */
    private static final class Custom {
        private static final int SLOTS = Meetings.OF_PETALS + 1;
        private static final int DEEPEST = 64;
        private static final int WIDTH = 64;
        private static final int WORDS = 16;

        final City city;
        // For each pair, slot and row of 64 minutes: a word for each exception, a bit for each minute.
        final long[] held = new long[PAIRS * SLOTS * WORDS * MOST_EXCEPTIONS];
        final int[] heldSince = new int[PAIRS * SLOTS * WORDS];
        final int[] stack = new int[DEEPEST];
        final int[] facts = new int[5];
        int cities = 1;
        boolean minuteAsked;

        Custom(City city) {
            this.city = city;
        }

        void forget() {
            cities++;
        }

        /** The exceptions, as bits, that hold for a clash. */
        int holding(int lesser, int greater, int slot, int minute) {
            int first = wordsOf(lesser, greater, slot, minute / WIDTH);
            int bits = 0;
            for (int exception = 0; exception < city.counts[EXCEPTIONS]; exception++) {
                bits |= (int) (held[first + exception] >>> minute % WIDTH & 1) << exception;
            }
            return bits;
        }

        /** The first minute of a span in which no exception that is on holds; behind its end if none. */
        int firstUnexcused(Meetings met, int span, int on) {
            int from = met.from[span];
            int to = met.to[span];
            for (int word = from / WIDTH; word <= to / WIDTH && word < WORDS; word++) {
                long bare = word == from / WIDTH ? -1L << from % WIDTH : -1L;
                int first = on == 0 ? 0 : wordsOf(met.lesser, met.greater, met.slot[span], word);
                for (int exception = 0; exception < MOST_EXCEPTIONS; exception++) {
                    if ((on >> exception & 1) != 0) {
                        bare &= ~held[first + exception];
                    }
                }
                if (bare != 0) {
                    return Math.min(word * WIDTH + Long.numberOfTrailingZeros(bare), to + 1);
                }
            }
            return to + 1;
        }

        /** Where the words of a pair, a slot and a row of minutes begin; they are made if they are not yet. */
        private int wordsOf(int lesser, int greater, int slot, int word) {
            int place = (pairOf(lesser, greater) * SLOTS + slot) * WORDS + word;
            if (heldSince[place] == cities) {
                return place * MOST_EXCEPTIONS;
            }
            heldSince[place] = cities;
            facts[1] = slot == Meetings.OF_PETALS ? 1 : 0;
            facts[2] = slot == Meetings.OF_PETALS ? 0 : slot;
            facts[3] = lesser;
            facts[4] = greater;
            for (int exception = 0; exception < city.counts[EXCEPTIONS]; exception++) {
                long bits = 0;
                minuteAsked = true;
                for (int i = 0; i < WIDTH && minuteAsked; i++) {
                    facts[0] = word * WIDTH + i;
                    minuteAsked = false;
                    if (holds(exception)) {
                        // What does not ask for the minute holds in all of them.
                        bits |= minuteAsked ? 1L << i : -1L;
                    }
                }
                held[place * MOST_EXCEPTIONS + exception] = bits;
            }
            return place * MOST_EXCEPTIONS;
        }

        /** Runs an exception's code on the facts; the sums are clamped here, where all results pass. */
        private boolean holds(int exception) {
            int top = 0;
            int end = Math.min(city.codeEnds[exception + 1], city.code.length);
            for (int i = city.codeEnds[exception]; i < end; i++) {
                int code = city.code[i];
                if (code >= ASK_SECOND && top < DEEPEST) {
                    minuteAsked |= code == ASK_MINUTE;
                    stack[top++] = code >= 0 ? code : facts[ASK_MINUTE - code];
                } else if (code == NOT && top > 0) {
                    stack[top - 1] = 1 - stack[top - 1];
                } else if (top > 1) {
                    top--;
                    long a = stack[top - 1];
                    int b = stack[top];
                    switch (code) {
                        case ADD:
                            a += b;
                            break;
                        case SUBTRACT:
                            a -= b;
                            break;
                        case MULTIPLY:
                            a *= b;
                            break;
                        case DIVIDE:
                            a = b == 0 ? 0 : Math.floorDiv((int) a, b);
                            break;
                        case LEAST:
                            a = a < b ? a : b;
                            break;
                        case GREATEST:
                            a = a > b ? a : b;
                            break;
                        case BELOW:
                            a = a < b ? 1 : 0;
                            break;
                        case ABOVE:
                            a = a > b ? 1 : 0;
                            break;
                        case LIKE:
                            a = a == b ? 1 : 0;
                            break;
                        case AND:
                            a &= b;
                            break;
                        default:
                            a |= b;
                    }
                    stack[top - 1] = (int) (a > LIMIT ? LIMIT : a < -LIMIT ? -LIMIT : a);
                }
            }
            return top > 0 && stack[top - 1] != 0;
        }
    }

    /** What can be told of the ways as they are. */
    private static final class Night {
        private static final int SETS = 1 << MOST_EXCEPTIONS;

        final City city;
        final Ways ways;
        final Meetings met;
        final Custom custom;
        final int[] marks = new int[MINUTES];
        int mark;

        Night(City city, Ways ways, Meetings met, Custom custom) {
            this.city = city;
            this.ways = ways;
            this.met = met;
            this.custom = custom;
        }

        int firstIn(int saint, int parish) {
            Track track = ways.tracks[saint];
            for (int i = 0; track.stepped && i < track.points; i++) {
                if (city.parish[track.corner[i]] == parish) {
                    return i == 0 ? 0 : track.come[i];
                }
            }
            return NONE;
        }

        int firstClash(int what) {
            int soonest = 2 * MINUTES;
            int first = NONE;
            int second = NONE;
            for (int s = 0; s < city.counts[SAINTS]; s++) {
                for (int t = s + 1; t < city.counts[SAINTS]; t++) {
                    int when = unexcusedOf(s, t);
                    if (when < soonest) {
                        soonest = when;
                        first = s;
                        second = t;
                    }
                }
            }
            if (first == NONE) {
                return NONE;
            }
            return what == 0 ? soonest / 2 : what == 1 ? soonest % 2 : what == 2 ? first : second;
        }

        /** Twice the minute of a pair's first clash that is not excepted, and 1 more for petals. */
        private int unexcusedOf(int s, int t) {
            int soonest = 2 * MINUTES;
            met.scanAll(s, t, ways.tracks);
            for (int span = 0; span < met.count; span++) {
                int sort = met.slot[span] == Meetings.OF_PETALS ? 1 : 0;
                if (met.from[span] * 2 + sort < soonest) {
                    int minute = custom.firstUnexcused(met, span, ways.onBits());
                    if (minute <= met.to[span]) {
                        soonest = Math.min(soonest, minute * 2 + sort);
                    }
                }
            }
            return soonest;
        }

        int tally(int sort) {
            int sum = 0;
            for (int s = 0; s < city.counts[SAINTS]; s++) {
                for (int t = s + 1; t < city.counts[SAINTS]; t++) {
                    sum += tallyOf(s, t, sort);
                }
            }
            return sum;
        }

        private int tallyOf(int s, int t, int sort) {
            int sum = 0;
            mark++;
            met.scanAll(s, t, ways.tracks);
            for (int span = 0; span < met.count; span++) {
                if ((met.slot[span] == Meetings.OF_PETALS ? 1 : 0) != sort) {
                    continue;
                }
                for (int minute = met.from[span]; minute <= met.to[span] && minute < MINUTES; minute++) {
                    if (marks[minute] != mark) {
                        marks[minute] = mark;
                        sum++;
                    }
                }
            }
            return sum;
        }

        int firstMeeting(int lesser, int greater) {
            int first = MINUTES;
            met.scanAll(lesser, greater, ways.tracks);
            for (int span = 0; span < met.count; span++) {
                first = Math.min(first, met.from[span]);
            }
            return first < MINUTES ? first : NONE;
        }

        int joy() {
            int worth = 0;
            for (int balcony = 0; balcony < city.counts[BALCONIES]; balcony++) {
                boolean glad = false;
                for (int saint = 0; saint < city.counts[SAINTS] && !glad; saint++) {
                    glad = pleases(saint, balcony * SIZE);
                }
                worth += glad ? city.balconies[balcony * SIZE + WORTH] : 0;
            }
            return worth;
        }

        private boolean pleases(int saint, int place) {
            Track track = ways.tracks[saint];
            for (int i = 0; track.stepped && i < track.points; i++) {
                int came = i == 0 ? 0 : track.come[i];
                if (track.corner[i] == city.balconies[place]
                        && came >= city.balconies[place + FROM] && came <= city.balconies[place + TO]) {
                    return true;
                }
            }
            return false;
        }

        /** The exceptions that make the night lawful with the fewest words; NONE if none do. */
        int softest() {
            long seen = 0;
            for (int s = 0; s < city.counts[SAINTS]; s++) {
                for (int t = s + 1; t < city.counts[SAINTS]; t++) {
                    seen |= heldSets(s, t);
                }
            }
            int best = NONE;
            for (int bits = 0; bits < 1 << city.counts[EXCEPTIONS]; bits++) {
                if (excuses(bits, seen) && (best == NONE || city.wordsOf(bits) < city.wordsOf(best))) {
                    best = bits;
                }
            }
            return best;
        }

        /** The sets of exceptions that hold for one clash or another: bit n is the set n. */
        private long heldSets(int s, int t) {
            long seen = 0;
            met.scanAll(s, t, ways.tracks);
            for (int span = 0; span < met.count; span++) {
                for (int minute = met.from[span]; minute <= met.to[span]; minute++) {
                    seen |= 1L << custom.holding(s, t, met.slot[span], minute);
                }
            }
            return seen;
        }

        private boolean excuses(int bits, long seen) {
            for (int set = 0; set < SETS; set++) {
                if ((seen >>> set & 1) != 0 && (set & bits) == 0) {
                    return false;
                }
            }
            return true;
        }

        /** The lanes, as bits, on which there is a clash of petals that is not excepted. */
        int foul() {
            int bits = 0;
            for (int s = 0; s < city.counts[SAINTS]; s++) {
                for (int t = s + 1; t < city.counts[SAINTS]; t++) {
                    met.scanAll(s, t, ways.tracks);
                    for (int span = 0; span < met.count; span++) {
                        if (met.slot[span] == Meetings.OF_PETALS
                                && custom.firstUnexcused(met, span, ways.onBits()) <= met.to[span]) {
                            bits |= 1 << met.lane[span];
                        }
                    }
                }
            }
            return bits;
        }
    }

    /** What each saint can choose: 0 to stay with its way, and 1 more than an option's number. */
    private static final class Options {
        private static final int MOST = 3 * MOST_ROUTES;
        private static final int CHOICES = MOST + 1;

        final City city;
        final Ways ways;
        final Meetings met;
        final Custom custom;
        final Track[] tracks = new Track[MOST_SAINTS * MOST_ROUTES];
        final int[] found = new int[MOST_SAINTS];
        final int[] ends = new int[MOST_SAINTS * CHOICES];
        final int[] ranked = new int[MOST_SAINTS * CHOICES];
        final int[] path = new int[MOST_CORNERS];
        final long[] known = new long[PAIRS * CHOICES];
        final long[] fits = new long[PAIRS * CHOICES];
        int version;

        Options(City city, Ways ways, Meetings met, Custom custom) {
            this.city = city;
            this.ways = ways;
            this.met = met;
            this.custom = custom;
            for (int i = 0; i < tracks.length; i++) {
                tracks[i] = new Track(MOST_CORNERS);
            }
        }

        /** Makes good what acts since the latest call have changed. */
        void prepare() {
            if (ways.newLanes) {
                for (int saint = 0; saint < city.counts[SAINTS]; saint++) {
                    found[saint] = 0;
                    path[0] = city.saints[saint * SIZE];
                    explore(saint, 0, 1 << city.parish[path[0]]);
                    rank(saint);
                }
            }
            if (ways.newLanes || ways.newCustom) {
                Arrays.fill(known, 0);
                Arrays.fill(fits, 0);
                version++;
            } else if (ways.newWays) {
                forgetWays();
            }
            ways.newLanes = false;
            ways.newCustom = false;
            ways.newWays = false;
        }

        private void forgetWays() {
            for (int pair = 0; pair < PAIRS; pair++) {
                known[pair * CHOICES] = 0;
                fits[pair * CHOICES] = 0;
                for (int choice = 1; choice < CHOICES; choice++) {
                    known[pair * CHOICES + choice] &= ~1L;
                    fits[pair * CHOICES + choice] &= ~1L;
                }
            }
        }

        private void explore(int saint, int depth, int seen) {
            if (seen == city.parishBits) {
                record(saint, depth);
                return;
            }
            for (int next = 0; next < city.counts[CORNERS] && depth + 1 < MOST_CORNERS; next++) {
                int lane = city.laneBetween[path[depth] * MOST_CORNERS + next];
                int bit = 1 << city.parish[next];
                boolean open = lane != NONE && (ways.shutBits() >> lane & 1) == 0;
                if (open && (seen & bit) == 0 && found[saint] < MOST_ROUTES) {
                    path[depth + 1] = next;
                    explore(saint, depth + 1, seen | bit);
                }
            }
        }

        private void record(int saint, int depth) {
            Track track = tracks[saint * MOST_ROUTES + found[saint]];
            found[saint]++;
            track.start(path[0]);
            for (int i = 1; i <= depth; i++) {
                int lane = city.laneBetween[path[i - 1] * MOST_CORNERS + path[i]];
                track.walkBy(lane, path[i], city.minutesOf(saint, lane));
            }
        }

        /** All choices of a saint, staying first, then options by their ends and numbers. */
        private void rank(int saint) {
            int first = saint * CHOICES;
            ranked[first] = 0;
            for (int choice = 1; choice <= 3 * found[saint]; choice++) {
                int place = choice;
                int end = trackOf(saint, choice).finish + lateOf(choice);
                ends[first + choice] = end;
                while (place > 1 && ends[first + ranked[first + place - 1]] > end) {
                    ranked[first + place] = ranked[first + place - 1];
                    place--;
                }
                ranked[first + place] = choice;
            }
        }

        int routesOf(int saint) {
            prepare();
            return found[saint];
        }

        Track trackOf(int saint, int choice) {
            return choice == 0 ? ways.tracks[saint] : tracks[saint * MOST_ROUTES + (choice - 1) / 3];
        }

        int lateOf(int choice) {
            return choice == 0 ? 0 : (choice - 1) % 3 * LATER;
        }

        int endOf(int saint, int choice) {
            return choice == 0 ? ways.tracks[saint].finish : ends[saint * CHOICES + choice];
        }

        /** Of a saint's choices (bits 1 and on are options) those that can be. */
        long optionBits(int saint) {
            return (1L << 3 * found[saint]) - 1 << 1;
        }

        /** Of another saint's choices those that do not clash with one of this saint. */
        long fitting(int saint, int choice, int other, long choices) {
            boolean ahead = saint < other;
            int pair = ahead ? pairOf(saint, other) : pairOf(other, saint);
            int row = pair * CHOICES + choice;
            if (ahead && (choices & ~known[row]) == 0) {
                return choices & fits[row];
            }
            long left = choices;
            long good = 0;
            for (int n = 0; n < CHOICES && left != 0; n++) {
                int theirs = Long.numberOfTrailingZeros(left);
                left &= left - 1;
                boolean fit = ahead ? judged(saint, choice, other, theirs) : judged(other, theirs, saint, choice);
                good |= fit ? 1L << theirs : 0;
            }
            return good;
        }

        private boolean judged(int lesser, int choice, int greater, int theirs) {
            int row = pairOf(lesser, greater) * CHOICES + choice;
            long bit = 1L << theirs;
            if ((known[row] & bit) == 0) {
                known[row] |= bit;
                Track mine = trackOf(lesser, choice);
                Track other = trackOf(greater, theirs);
                boolean lawful = true;
                // The first span alone already tells most of those that are not lawful.
                for (int most = 1; most <= Meetings.SPANS && lawful; most += Meetings.SPANS - 1) {
                    met.most = most;
                    met.scan(lesser, mine, lateOf(choice), greater, other, lateOf(theirs));
                    for (int span = 0; span < met.count && lawful; span++) {
                        lawful = custom.firstUnexcused(met, span, ways.onBits()) > met.to[span];
                    }
                    if (met.count == 0) {
                        break;
                    }
                }
                fits[row] |= lawful ? bit : 0;
            }
            return (fits[row] & bit) != 0;
        }
    }

    /** Choices for all saints at once, and for one after the other. */
    private static final class Planner {
        // More than all ends together can be, so that fewer changes go ahead of sooner ends.
        private static final int CHANGE = 10000;
        private static final int DEAR = 100000;

        final City city;
        final Ways ways;
        final Options options;
        final long[] domains = new long[(MOST_SAINTS + 1) * MOST_SAINTS];
        final int[] members = new int[MOST_SAINTS];
        final int[] chosen = new int[MOST_SAINTS];
        final int[] best = new int[MOST_SAINTS];
        int count;
        int bestCost;
        boolean staying;
        boolean byNumber;
        int solvedBits = NONE;
        int solvedVersion;
        int solvedCost;

        Planner(City city, Ways ways, Options options) {
            this.city = city;
            this.ways = ways;
            this.options = options;
        }

        /** The least cost of choices for these saints that fit (they are in best then), or NONE. */
        int solve(int bits, boolean canStay) {
            options.prepare();
            if (!canStay && bits == solvedBits && solvedVersion == options.version) {
                return solvedCost;
            }
            staying = canStay;
            count = 0;
            for (int saint = 0; saint < city.counts[SAINTS]; saint++) {
                if ((bits >> saint & 1) != 0) {
                    long stay = canStay && !ways.blocked(saint) ? 1 : 0;
                    domains[saint] = options.optionBits(saint) | stay;
                    members[count++] = saint;
                }
            }
            bestCost = DEAR;
            byNumber = false;
            dive(0, 0);
            int least = bestCost;
            if (least < DEAR) {
                bestCost = least + 1;
                byNumber = true;
                dive(0, 0);
            }
            solvedBits = canStay ? NONE : bits;
            solvedVersion = options.version;
            solvedCost = least < DEAR ? least : NONE;
            return solvedCost;
        }

        /** Tries all choices of one saint behind those chosen; what is found is less than bestCost. */
        private void dive(int level, int cost) {
            if (level >= count) {
                // By number the first that is found counts: nothing costs less than 0.
                bestCost = byNumber ? 0 : cost;
                for (int i = 0; i < count; i++) {
                    best[members[i]] = chosen[i];
                }
                return;
            }
            int saint = members[level];
            long open = domains[level * MOST_SAINTS + saint];
            int rest = leastBehind(level, level);
            for (int n = 0; n <= 3 * options.found[saint]; n++) {
                int choice = byNumber ? n : options.ranked[saint * Options.CHOICES + n];
                int sum = cost + price(saint, choice);
                if ((open >>> choice & 1) == 0 || sum + rest >= bestCost) {
                    continue;
                }
                chosen[level] = choice;
                long left = 1;
                for (int i = level + 1; i < count && left != 0; i++) {
                    int other = members[i];
                    left = cheapEnough(other, domains[level * MOST_SAINTS + other], bestCost - sum);
                    left = options.fitting(saint, choice, other, left);
                    domains[(level + 1) * MOST_SAINTS + other] = left;
                }
                if (left != 0 && sum + leastBehind(level, level + 1) < bestCost) {
                    dive(level + 1, sum);
                }
            }
        }

        private int price(int saint, int choice) {
            return options.endOf(saint, choice) + (staying && choice != 0 ? CHANGE : 0);
        }

        /** The least that the saints behind a level can cost by the choices open at another one. */
        private int leastBehind(int level, int row) {
            int sum = 0;
            for (int i = level + 1; i < count; i++) {
                sum += cheapest(members[i], domains[row * MOST_SAINTS + members[i]]);
            }
            return Math.min(sum, DEAR);
        }

        private int cheapest(int saint, long open) {
            for (int n = 0; n <= 3 * options.found[saint] && open != 0; n++) {
                int choice = options.ranked[saint * Options.CHOICES + n];
                if ((open >>> choice & 1) != 0) {
                    return price(saint, choice);
                }
            }
            return DEAR;
        }

        private long cheapEnough(int saint, long open, int below) {
            int last = 3 * options.found[saint];
            if (price(saint, options.ranked[saint * Options.CHOICES + last]) < below) {
                return open;
            }
            long cheap = 1;
            for (int n = 1; n <= last; n++) {
                int choice = options.ranked[saint * Options.CHOICES + n];
                if (price(saint, choice) >= below) {
                    break;
                }
                cheap |= 1L << choice;
            }
            return open & cheap;
        }

        /** All ways are by what was solved: how many have an option. */
        int carryOut() {
            int changed = 0;
            for (int i = 0; i < count; i++) {
                int saint = members[i];
                if (best[saint] != 0) {
                    adopt(saint, best[saint]);
                    changed++;
                }
            }
            return changed;
        }

        private void adopt(int saint, int choice) {
            ways.adopt(saint, options.trackOf(saint, choice), options.lateOf(choice));
        }

        boolean takeTurn(int saint) {
            options.prepare();
            Track own = ways.tracks[saint];
            int wanted = NONE;
            for (int n = 1; n <= 3 * options.found[saint] && wanted == NONE; n++) {
                int choice = options.ranked[saint * Options.CHOICES + n];
                if (fitsWays(saint, choice)) {
                    wanted = choice;
                }
            }
            boolean takes = wanted != NONE && (options.endOf(saint, wanted) < own.finish || !own.stepped
                    || ways.blocked(saint) || !fitsWays(saint, 0));
            if (takes) {
                adopt(saint, wanted);
            }
            return takes;
        }

        private boolean fitsWays(int saint, int choice) {
            for (int other = 0; other < city.counts[SAINTS]; other++) {
                if (other != saint && options.fitting(saint, choice, other, 1) == 0) {
                    return false;
                }
            }
            return true;
        }

        /** An order of all saints by a number, two bits for each place; false if it is none. */
        boolean drawOrder(int code) {
            int drawn = 0;
            count = city.counts[SAINTS];
            for (int i = 0; i < count; i++) {
                members[i] = code >> 2 * i & 3;
                drawn |= 1 << members[i];
            }
            solvedBits = NONE;
            return code >> 2 * count == 0 && drawn == (1 << count) - 1;
        }

        /** Whether a saint ends as soon as alone, when each in the order drawn chooses beside those ahead. */
        boolean luckyIn(int saint) {
            options.prepare();
            for (int i = 0; i < count; i++) {
                chosen[i] = pick(i);
                if (members[i] == saint) {
                    int alone = options.ranked[saint * Options.CHOICES + 1];
                    return chosen[i] != NONE && options.endOf(saint, chosen[i]) == options.endOf(saint, alone);
                }
            }
            return false;
        }

        private int pick(int place) {
            int saint = members[place];
            for (int n = 1; n <= 3 * options.found[saint]; n++) {
                int choice = options.ranked[saint * Options.CHOICES + n];
                boolean good = true;
                for (int i = 0; i < place && good; i++) {
                    good = chosen[i] == NONE
                            || options.fitting(members[i], chosen[i], saint, 1L << choice) != 0;
                }
                if (good) {
                    return choice;
                }
            }
            return NONE;
        }
    }

    /** All nights by which petals lie on just some lanes: choices that leave the same are one heap. */
    private static final class Dawn {
        private static final int MOST = 3;
        private static final int HEAPS = Options.CHOICES;

        final City city;
        final Options options;
        final int[] left = new int[MOST * HEAPS];
        final int[] size = new int[MOST * HEAPS];
        final int[] gone = new int[MOST * HEAPS];
        final boolean[] out = new boolean[MOST * HEAPS];
        final int[] heaps = new int[MOST];
        int nights;
        int alwaysGone;
        int sometimesOut;

        Dawn(City city, Options options) {
            this.city = city;
            this.options = options;
        }

        void look(int lanes, int minute) {
            options.prepare();
            for (int saint = 0; saint < MOST; saint++) {
                heaps[saint] = 0;
                heap(saint, 0, 0, false);
                int choices = saint < city.counts[SAINTS] ? 3 * options.found[saint] : 0;
                for (int choice = 1; choice <= choices; choice++) {
                    Track track = options.trackOf(saint, choice);
                    int petals = city.petalsOf(saint, track, options.lateOf(choice), minute);
                    if ((petals & ~lanes) == 0) {
                        heap(saint, petals, track.laneBits, true);
                    }
                }
            }
            count(lanes);
        }

        private void heap(int saint, int petals, int lanes, boolean isOut) {
            int first = saint * HEAPS;
            int place = first;
            while (place < first + heaps[saint] && left[place] != petals) {
                place++;
            }
            if (place == first + heaps[saint]) {
                heaps[saint]++;
                left[place] = petals;
                size[place] = 0;
                gone[place] = lanes;
                out[place] = false;
            }
            size[place]++;
            gone[place] &= lanes;
            out[place] |= isOut;
        }

        private void count(int lanes) {
            nights = 0;
            alwaysGone = (1 << MOST_LANES) - 1;
            sometimesOut = 0;
            for (int i = 0; i < heaps[0]; i++) {
                for (int j = HEAPS; j < HEAPS + heaps[1]; j++) {
                    int two = left[i] | left[j];
                    for (int k = 2 * HEAPS; k < 2 * HEAPS + heaps[2]; k++) {
                        if ((two | left[k]) == lanes) {
                            nights += size[i] * size[j] * size[k];
                            alwaysGone &= gone[i] | gone[j] | gone[k];
                            sometimesOut |= (out[i] ? 1 : 0) | (out[j] ? 2 : 0) | (out[k] ? 4 : 0);
                        }
                    }
                }
            }
        }
    }
}
