import java.util.NoSuchElementException;

/** Reads who trod a rug: a house told as a text, walks, days, beating, and what all that leaves. */
public final class RugReader {
    public static final int NONE = -1;

    private static final int ACROSS = 12;
    private static final int TUFTS = 144;
    private static final int PEOPLE = 6;
    private static final int WAYS = 6;
    private static final int LONGEST = 41;
    private static final int WALLS = 30;
    private static final int DOORS = 8;
    private static final int DAYS = 999;
    private static final int UNDOES = 6;
    private static final int PLACES = 2;
    private static final Word[] WORDS = Word.values();

    private final Tape tape = new Tape();
    private final HouseText houseText = new HouseText(tape);
    private House home = new House();
    private House draft = new House();
    private Sentence saying = new Sentence();
    private Sentence sayingDraft = new Sentence();
    private final Rug rug = new Rug();
    private final Rug[] earlier = new Rug[UNDOES];
    private int oldest = 0;
    private int undoable = 0;
    private final House[] keptHomes = new House[PLACES];
    private final Rug[] keptRugs = new Rug[PLACES];
    private final Sentence[] keptSayings = new Sentence[PLACES];
    private final boolean[] kept = new boolean[PLACES];
    private final Readings clean = new Readings();
    private final Walk told = new Walk();
    private final Crossing crossing = new Crossing();
    private final Lookout lookout = new Lookout();

    public RugReader() {
        for (int i = 0; i < UNDOES; i++) {
            earlier[i] = new Rug();
        }
        for (int k = 0; k < PLACES; k++) {
            keptHomes[k] = new House();
            keptRugs[k] = new Rug();
            keptSayings[k] = new Sentence();
        }
    }

    // The tape.

    public int feed(int a, int b, int c, int d, int e) {
        if (!tape.hasRoom(20)) {
            return NONE;
        }
        tape.put(a);
        tape.put(b);
        tape.put(c);
        tape.put(d);
        tape.put(e);
        return tape.length;
    }

    public boolean end(int n) {
        if (n < 0 || n > tape.length) {
            return false;
        }
        tape.length = n;
        return true;
    }

    // The house.

    public int house() {
        int lines = houseText.take(draft);
        tape.length = 0;
        if (lines == NONE) {
            return -1 - tape.place;
        }
        House last = home;
        home = draft;
        draft = last;
        rug.clear();
        saying.clear();
        undoable = 0;
        return lines;
    }

    public int fault() {
        return tape.fault;
    }

    public int person(int p, int what) throws NoSuchElementException {
        if (!home.isPerson(p) || what < 0 || what > 5) {
            throw new NoSuchElementException("no such person, or nothing such of a person");
        }
        return what == 5 ? rug.walksOf(p) : measure(home, rug, p, what);
    }

    public int tuft(int at, int what) throws NoSuchElementException {
        if (!home.onRug(at) || what < 0 || what > 7) {
            throw new NoSuchElementException("no such tuft, or nothing such of a tuft");
        }
        if (what == 0) {
            return rug.depthOn(home, at);
        }
        if (what == 1) {
            return rug.printsOn(at);
        }
        if (what == 6) {
            return home.isWall(at) ? 1 : 0;
        }
        if (what == 7) {
            return home.isDoor(at) ? 1 : 0;
        }
        return rug.onTop(at, what);
    }

    public int way(int way, int i) {
        return home.tuftOf(way, i);
    }

    // What happens on the rug.

    public int goes(int p, int way, int soles) {
        if (!home.isPerson(p) || !home.isWay(way) || !home.isPerson(soles)) {
            return NONE;
        }
        keepForUndo();
        rug.tread(home, p, way, home.soleOf(soles));
        return home.lengthOf(way);
    }

    public int days(int n) {
        if (n < 1 || n > 20 || rug.day > DAYS - n) {
            return NONE;
        }
        keepForUndo();
        for (int i = 0; i < n; i++) {
            rug.letDayGo(home.fadeDays());
        }
        return rug.day;
    }

    public int beat(int a, int b) {
        if (!home.onRug(a) || !home.onRug(b)) {
            return NONE;
        }
        keepForUndo();
        int left = Math.min(a % ACROSS, b % ACROSS);
        int right = Math.max(a % ACROSS, b % ACROSS);
        int low = Math.max(a / ACROSS, b / ACROSS);
        int cleared = 0;
        for (int y = Math.min(a / ACROSS, b / ACROSS); y <= low; y++) {
            for (int x = left; x <= right; x++) {
                if (rug.beatOne(home, y * ACROSS + x)) {
                    cleared++;
                }
            }
        }
        return cleared;
    }

    public int years(int n, int m, int seed) {
        if (n < 1 || n > 60 || m < 1 || m > 9 || home.people == 0 || home.ways == 0 || rug.day > DAYS - n) {
            return NONE;
        }
        keepForUndo();
        int x = seed;
        for (int i = 0; i < n; i++) {
            x = drawDay(x, m);
        }
        return rug.day;
    }

    public int undo() {
        if (undoable < 1) {
            return NONE;
        }
        undoable--;
        Rug last = earlier[Math.floorMod(oldest + undoable, UNDOES)];
        if (last != null) {
            rug.copyFrom(last);
        }
        return undoable;
    }

    private void keepForUndo() {
        if (undoable == UNDOES) {
            oldest = (oldest + 1) % UNDOES;
            undoable--;
        }
        Rug room = earlier[Math.floorMod(oldest + undoable, UNDOES)];
        if (room != null) {
            room.copyFrom(rug);
        }
        undoable++;
    }

    /** One DAY of so many walks drawn on from x; answers the x behind its last draw. */
    private int drawDay(int seed, int walks) {
        int x = seed;
        for (int i = 0; i < walks; i++) {
            x = nextSeed(x);
            int p = draw(x, home.people);
            x = nextSeed(x);
            rug.tread(home, p, draw(x, home.ways), home.soleOf(p));
        }
        x = nextSeed(x);
        if (draw(x, 6) == 0) {
            x = nextSeed(x);
            int across = draw(x, home.width);
            x = nextSeed(x);
            rug.beatOne(home, draw(x, home.height) * ACROSS + across);
        }
        rug.letDayGo(home.fadeDays());
        return x;
    }

    private static int nextSeed(int x) {
        return x * 1103515245 + 12345;
    }

    private static int draw(int x, int n) {
        return n < 1 ? 0 : (x >>> 8) % n;
    }

    // What the rug tells.

    public int hidden(int k) {
        int found = 0;
        for (int at = 0; at < TUFTS; at++) {
            if (rug.lostOn(home, at) != 0) {
                if (found == k) {
                    return at;
                }
                found++;
            }
        }
        return k == NONE ? found : NONE;
    }

    public int missing(int at) {
        return home.onRug(at) ? rug.lostOn(home, at) : NONE;
    }

    public int soles(int sole) {
        int found = 0;
        for (int at = 0; at < TUFTS; at++) {
            if (rug.lies(at) && rug.soleOn(at) == sole) {
                found++;
            }
        }
        return found;
    }

    public int deepest() {
        int best = NONE;
        int most = 0;
        for (int at = 0; at < TUFTS; at++) {
            int depth = rug.depthOn(home, at);
            if (depth > most) {
                most = depth;
                best = at;
            }
        }
        return best;
    }

    public int who(int depth) {
        int bits = 0;
        for (int p = 0; p < home.people; p++) {
            if (home.ageOfDepth(p, depth) != NONE) {
                bits |= 1 << p;
            }
        }
        return bits == 0 ? NONE : bits;
    }

    public int age(int p, int depth) {
        return home.ageOfDepth(p, depth);
    }

    // Readings of a clean rug.

    public int readings() {
        int found = clean.find(tape, home);
        tape.length = 0;
        return found;
    }

    public int read(int way, int what) {
        return clean.walkerOf(way, what);
    }

    public int fewest() {
        return clean.fewestPeople;
    }

    // Crossing, walks told, where to lay rugs.

    public int sign(int p, int from, int to) {
        return crossing.find(home, rug, p, from, to) ? crossing.marks * home.weightOf(p) : NONE;
    }

    public int steps(int p, int from, int to) {
        return crossing.find(home, rug, p, from, to) ? crossing.stepsGone : NONE;
    }

    public int walk() {
        boolean taken = told.take(tape, home);
        tape.length = 0;
        return taken ? told.judge(home) : -2 - tape.place;
    }

    public int walked(int what) {
        return told.outcome(what);
    }

    public int seen(int a, int b) {
        if (!home.isDoorNumber(a) || !home.isDoorNumber(b)) {
            return NONE;
        }
        int from = home.doorTuft(a);
        int to = home.doorTuft(b);
        if (from == to || home.areBeside(from, to)) {
            return NONE;
        }
        return lookout.find(home, from, to);
    }

    public int lay(int i) {
        return lookout.laid(i);
    }

    // The ways.

    public int spot() {
        int best = NONE;
        int most = 0;
        for (int at = 0; at < TUFTS; at++) {
            int over = Integer.bitCount(home.waysOver(at));
            if (over > most) {
                most = over;
                best = at;
            }
        }
        return best;
    }

    public int ways(int at) {
        return home.onRug(at) ? home.waysOver(at) : NONE;
    }

    public int both(int a, int b) {
        if (!home.isWay(a) || !home.isWay(b)) {
            return NONE;
        }
        int shared = (1 << a) | (1 << b);
        int found = 0;
        for (int at = 0; at < TUFTS; at++) {
            if ((home.waysOver(at) & shared) == shared) {
                found++;
            }
        }
        return found;
    }

    public int rarest() {
        int best = NONE;
        for (int p = 0; p < home.people; p++) {
            if (best == NONE || rug.walksOf(p) < rug.walksOf(best)) {
                best = p;
            }
        }
        return best;
    }

    // What may be said.

    public int sentence() {
        boolean taken = sayingDraft.take(tape, home);
        tape.length = 0;
        if (!taken) {
            return -1 - tape.place;
        }
        Sentence last = saying;
        saying = sayingDraft;
        sayingDraft = last;
        return saying.ones;
    }

    public int said(int k) {
        if (saying.ones == 0) {
            return NONE;
        }
        int found = 0;
        for (int p = 0; p < home.people; p++) {
            if (saying.holdsOf(home, rug, p)) {
                if (found == k) {
                    return p;
                }
                found++;
            }
        }
        return k == NONE ? found : NONE;
    }

    /** What a SENTENCE and person() measure: 0 WEIGHT, 1 SOLE, 2 PACE, 3 prints, 4 tufts, 5 the number. */
    private static int measure(House house, Rug rug, int p, int what) {
        if (what == 0) {
            return house.weightOf(p);
        }
        if (what == 1) {
            return house.soleOf(p);
        }
        if (what == 2) {
            return house.paceOf(p);
        }
        if (what == 3) {
            return rug.printsBy(p);
        }
        return what == 4 ? rug.tuftsTrodBy(p) : p;
    }

    // Images.

    public boolean image(int k) {
        if (k < 0 || k >= PLACES) {
            return false;
        }
        House house = keptHomes[k];
        Rug carpet = keptRugs[k];
        Sentence sentence = keptSayings[k];
        if (house == null || carpet == null || sentence == null) {
            return false;
        }
        house.copyFrom(home);
        carpet.copyFrom(rug);
        sentence.copyFrom(saying);
        kept[k] = true;
        return true;
    }

    public boolean restore(int k) {
        if (k < 0 || k >= PLACES || !kept[k]) {
            return false;
        }
        House house = keptHomes[k];
        Rug carpet = keptRugs[k];
        Sentence sentence = keptSayings[k];
        if (house == null || carpet == null || sentence == null) {
            return false;
        }
        home.copyFrom(house);
        rug.copyFrom(carpet);
        saying.copyFrom(sentence);
        undoable = 0;
        return true;
    }

    public int count(int what) {
        switch (what) {
            case 0:
                return home.width;
            case 1:
                return home.height;
            case 2:
                return home.people;
            case 3:
                return home.ways;
            case 4:
                return home.walls;
            case 5:
                return home.doors;
            case 6:
                return home.fadeDays();
            case 7:
                return rug.day;
            case 8:
                return tape.length;
            default:
                return NONE;
        }
    }

    /** The words that no NAME may be. */
    private enum Word {
        RUG("rug", NONE, NONE),
        PERSON("person", NONE, NONE),
        WALL("wall", NONE, NONE),
        DOOR("door", NONE, NONE),
        WAY("way", NONE, NONE),
        FADE("fade", NONE, NONE),
        NORTH("n", 0, NONE),
        EAST("e", 1, NONE),
        SOUTH("s", 2, NONE),
        WEST("w", 3, NONE),
        OR("or", NONE, NONE),
        AND("and", NONE, NONE),
        NOT("not", NONE, NONE),
        TROD("trod", NONE, NONE),
        WEIGHT("weight", NONE, 0),
        SOLE("sole", NONE, 1),
        PACE("pace", NONE, 2),
        PRINTS("prints", NONE, 3),
        TUFTS_TROD("tufts", NONE, 4),
        PLACE("place", NONE, 5);

        final long code;
        final int dir;
        final int measured;

        Word(String text, int dir, int measured) {
            this.code = codeOf(text);
            this.dir = dir;
            this.measured = measured;
        }

        private static long codeOf(String text) {
            long code = 0;
            for (int i = 0; i < text.length(); i++) {
                code = longer(code, text.charAt(i));
            }
            return code;
        }

        /** The code of a WORD with one letter more: five bits a letter, so that seven fit and none are alike. */
        static long longer(long code, int letter) {
            return code * 32 + (letter - 'a' + 1);
        }
    }

    /** The bytes told so far, the TOKENS of the text that is being read, and the latest FAULT. */
    private static final class Tape {
        static final int MOST = 940;
        private static final int END = 0;
        private static final int NAME = 1;
        private static final int WORD = 2;
        private static final int NUMBER = 3;
        private static final int SIGN = 4;
        private static final int BAD = 5;

        private final int[] bytes = new int[MOST];
        int length = 0;
        int fault = 0;
        int place = 0;
        private boolean tooLong = false;
        private int tokens = 0;
        private int current = 0;
        private final int[] start = new int[MOST + 1];
        private final int[] kind = new int[MOST + 1];
        /** Of a NAME its code, of a WORD its number in WORDS, of a NUMBER or a SIGN itself. */
        private final long[] value = new long[MOST + 1];

        boolean hasRoom(int more) {
            return length <= MOST - more;
        }

        /** Puts the four bytes of a number behind the tape, the highest first. */
        void put(int four) {
            for (int shift = 24; shift >= 0; shift -= 8) {
                if (length >= 0 && length < MOST) {
                    bytes[length] = (four >>> shift) & 255;
                    length++;
                }
            }
        }

        int byteAt(int i) {
            return i >= 0 && i < length && i < MOST ? bytes[i] : NONE;
        }

        /** Takes the tape as a text of so many bytes at most; a TOKEN that begins ahead of that is read whole. */
        void begin(int most) {
            int limit = Math.min(length, most);
            tooLong = length > most;
            fault = 0;
            place = 0;
            current = 0;
            tokens = 0;
            int told = 0;
            for (int at = 0; at < limit; at++) {
                if (at >= told) {
                    told = tellToken(at);
                }
            }
            putToken(limit, END, 0);
        }

        /** Puts the TOKEN that begins here, if it is no blank: where the next one can begin. */
        private int tellToken(int at) {
            int c = byteAt(at);
            if (goesOn(c)) {
                int end = endOfRun(at);
                putRun(at, end);
                return end;
            }
            if (c != ' ' && c != '\n') {
                putToken(at, isSign(c) ? SIGN : BAD, c);
            }
            return at + 1;
        }

        private void putToken(int at, int what, long worth) {
            if (tokens >= 0 && tokens <= MOST) {
                start[tokens] = at;
                kind[tokens] = what;
                value[tokens] = worth;
                tokens++;
            }
        }

        private static boolean isLetter(int c) {
            return c >= 'a' && c <= 'z';
        }

        private static boolean goesOn(int c) {
            return isLetter(c) || c >= '0' && c <= '9';
        }

        private static boolean isSign(int c) {
            return c == ';' || c == '<' || c == '=' || c == '>' || c == '(' || c == ')';
        }

        private int endOfRun(int from) {
            int end = from + 1;
            while (end < length && goesOn(byteAt(end))) {
                end++;
            }
            return end;
        }

        private void putRun(int from, int to) {
            int size = to - from;
            int letters = 0;
            long code = 0;
            int number = 0;
            for (int i = from; i < to; i++) {
                int c = byteAt(i);
                if (isLetter(c)) {
                    letters++;
                    code = Word.longer(code, c);
                } else {
                    number = number * 10 + (c - '0');
                }
            }
            if (letters == size && size <= 7) {
                int known = wordOf(code);
                putToken(from, known == NONE ? NAME : WORD, known == NONE ? code : known);
            } else {
                putToken(from, letters == 0 && size <= 3 ? NUMBER : BAD, number);
            }
        }

        private static int wordOf(long code) {
            for (int i = 0; i < WORDS.length; i++) {
                Word known = WORDS[i];
                if (known != null && known.code == code) {
                    return i;
                }
            }
            return NONE;
        }

        /** Goes on to the next TOKEN; the end is the last one. */
        void advance() {
            if (current < tokens - 1) {
                current++;
            }
        }

        private boolean is(int what) {
            return current >= 0 && current <= MOST && kind[current] == what;
        }

        private long valueHere() {
            return current >= 0 && current <= MOST ? value[current] : 0;
        }

        boolean atEnd() {
            return is(END);
        }

        /** The sign here; 0: it is none. */
        int signHere() {
            return is(SIGN) ? (int) valueHere() : 0;
        }

        /** The WORD here that no NAME may be; null: it is none. */
        Word wordHere() {
            int known = is(WORD) ? (int) valueHere() : NONE;
            return known >= 0 && known < WORDS.length ? WORDS[known] : null;
        }

        /** The DIR here; NONE: it is none. */
        int dirHere() {
            Word here = wordHere();
            return here == null ? NONE : here.dir;
        }

        /** What the WORD here measures of people; NONE: it does not. */
        int measuredHere() {
            Word here = wordHere();
            return here == null ? NONE : here.measured;
        }

        /** A FAULT of a kind at this TOKEN; always false, so that who reads can stop with it. */
        boolean refuse(int ofKind) {
            fault = ofKind;
            place = current >= 0 && current <= MOST ? start[current] : 0;
            return false;
        }

        /** The code of the NAME here, above 0; NONE with a FAULT. */
        long nameHere() {
            if (is(NAME)) {
                return valueHere();
            }
            refuse(1);
            return NONE;
        }

        /** The NUMBER here, from low to high; NONE with a FAULT. */
        int numberHere(int low, int high) {
            int number = is(NUMBER) ? (int) valueHere() : NONE;
            if (number < low || number > high) {
                refuse(number == NONE ? 1 : 2);
                return NONE;
            }
            return number;
        }

        /** The NUMBER here, likewise, and goes over it. */
        int takeNumber(int low, int high) {
            int number = numberHere(low, high);
            if (number != NONE) {
                advance();
            }
            return number;
        }

        boolean takeSign(int c) {
            if (signHere() != c) {
                return refuse(1);
            }
            advance();
            return true;
        }

        /** Whether the text ends here and is not too long; else a FAULT. */
        boolean ends() {
            return atEnd() && !tooLong || refuse(1);
        }
    }

    /** A HOUSE: its rug's size, walls and doors, its people and WAYS. */
    private static final class House {
        int width = 0;
        int height = 0;
        int fade = 0;
        int people = 0;
        int ways = 0;
        int walls = 0;
        int doors = 0;
        final int[] weight = new int[PEOPLE];
        final int[] sole = new int[PEOPLE];
        final int[] pace = new int[PEOPLE];
        final long[] personName = new long[PEOPLE];
        final long[] wayName = new long[WAYS];
        final int[] wayLength = new int[WAYS];
        final int[] wayTuft = new int[WAYS * LONGEST];
        final boolean[] wall = new boolean[TUFTS];
        final int[] door = new int[DOORS];

        void clear() {
            width = 0;
            height = 0;
            fade = 0;
            people = 0;
            ways = 0;
            walls = 0;
            doors = 0;
            for (int at = 0; at < TUFTS; at++) {
                wall[at] = false;
            }
        }

        void copyFrom(House other) {
            width = other.width;
            height = other.height;
            fade = other.fade;
            people = other.people;
            ways = other.ways;
            walls = other.walls;
            doors = other.doors;
            System.arraycopy(other.weight, 0, weight, 0, PEOPLE);
            System.arraycopy(other.sole, 0, sole, 0, PEOPLE);
            System.arraycopy(other.pace, 0, pace, 0, PEOPLE);
            System.arraycopy(other.personName, 0, personName, 0, PEOPLE);
            System.arraycopy(other.wayName, 0, wayName, 0, WAYS);
            System.arraycopy(other.wayLength, 0, wayLength, 0, WAYS);
            System.arraycopy(other.wayTuft, 0, wayTuft, 0, WAYS * LONGEST);
            System.arraycopy(other.door, 0, door, 0, DOORS);
            for (int at = 0; at < TUFTS; at++) {
                wall[at] = other.wall[at];
            }
        }

        int fadeDays() {
            return fade == 0 ? 9 : fade;
        }

        boolean onRug(int at) {
            return at >= 0 && at < TUFTS && at % ACROSS < width && at / ACROSS < height;
        }

        boolean isWall(int at) {
            return at >= 0 && at < TUFTS && wall[at];
        }

        boolean isDoor(int at) {
            for (int i = 0; i < doors && i < DOORS; i++) {
                if (door[i] == at) {
                    return true;
                }
            }
            return false;
        }

        boolean isDoorNumber(int i) {
            return i >= 0 && i < doors && i < DOORS;
        }

        int doorTuft(int i) {
            return isDoorNumber(i) ? door[i] : NONE;
        }

        boolean isPerson(int p) {
            return p >= 0 && p < people && p < PEOPLE;
        }

        int weightOf(int p) {
            return isPerson(p) ? weight[p] : 0;
        }

        int soleOf(int p) {
            return isPerson(p) ? sole[p] : NONE;
        }

        int paceOf(int p) {
            return isPerson(p) ? pace[p] : 0;
        }

        int personNamed(long name) {
            for (int p = 0; p < people && p < PEOPLE; p++) {
                if (personName[p] == name) {
                    return p;
                }
            }
            return NONE;
        }

        int wayNamed(long name) {
            for (int way = 0; way < ways && way < WAYS; way++) {
                if (wayName[way] == name) {
                    return way;
                }
            }
            return NONE;
        }

        boolean isWay(int way) {
            return way >= 0 && way < ways && way < WAYS;
        }

        int lengthOf(int way) {
            return isWay(way) ? wayLength[way] : 0;
        }

        int tuftOf(int way, int i) {
            return i >= 0 && i < lengthOf(way) && i < LONGEST ? wayTuft[way * LONGEST + i] : NONE;
        }

        /** The DIR of a tread on TUFT i of a WAY: on, at its end as it came, 0 where it is one TUFT alone. */
        int dirOf(int way, int i) {
            int last = lengthOf(way) - 1;
            if (last < 1) {
                return 0;
            }
            int from = Math.min(i, last - 1);
            return dirBetween(tuftOf(way, from), tuftOf(way, from + 1));
        }

        private static int dirBetween(int from, int to) {
            if (to == from - ACROSS) {
                return 0;
            }
            if (to == from + 1) {
                return 1;
            }
            return to == from + ACROSS ? 2 : 3;
        }

        /** Puts a TUFT behind the WAY that is being told. */
        void lengthen(int way, int at) {
            if (way >= 0 && way < WAYS && wayLength[way] >= 0 && wayLength[way] < LONGEST) {
                wayTuft[way * LONGEST + wayLength[way]] = at;
                wayLength[way]++;
            }
        }

        /** How often a WAY goes over a TUFT. */
        int passes(int way, int at) {
            int found = 0;
            int length = lengthOf(way);
            for (int i = 0; i < length; i++) {
                if (tuftOf(way, i) == at) {
                    found++;
                }
            }
            return found;
        }

        int waysOver(int at) {
            int bits = 0;
            for (int way = 0; way < ways && way < WAYS; way++) {
                if (passes(way, at) > 0) {
                    bits |= 1 << way;
                }
            }
            return bits;
        }

        /** The TUFT a STEP on in a DIR; NONE: that leaves the rug. */
        int stepFrom(int at, int dir) {
            if (!onRug(at)) {
                return NONE;
            }
            int x = at % ACROSS + (dir == 1 ? 1 : dir == 3 ? -1 : 0);
            int y = at / ACROSS + (dir == 2 ? 1 : dir == 0 ? -1 : 0);
            return x >= 0 && x < width && y >= 0 && y < height ? y * ACROSS + x : NONE;
        }

        /** The TUFT so many STEPS on; NONE: that leaves the rug or goes through a wall. */
        int reach(int from, int dir, int far) {
            int at = from;
            for (int i = 0; i < far && at != NONE; i++) {
                at = stepFrom(at, dir);
                if (isWall(at)) {
                    at = NONE;
                }
            }
            return at;
        }

        boolean areBeside(int a, int b) {
            for (int dir = 0; dir < 4; dir++) {
                if (b != NONE && stepFrom(a, dir) == b) {
                    return true;
                }
            }
            return false;
        }

        /** How old a print of a DEPTH by one tread of a person is; NONE: it can't be. */
        int ageOfDepth(int p, int depth) {
            int heavy = weightOf(p);
            if (heavy < 1 || depth < 1 || depth % heavy != 0 || depth / heavy > fadeDays()) {
                return NONE;
            }
            return fadeDays() - depth / heavy;
        }
    }

    /** Reads a HOUSE from the tape. */
    private static final class HouseText {
        private static final int BYTES = 900;
        private static final int MOST_STEPS = 40;

        private final Tape tape;

        HouseText(Tape tape) {
            this.tape = tape;
        }

        /** Makes the house what the tape tells: how many LINES; NONE with a FAULT. */
        int take(House house) {
            house.clear();
            tape.begin(BYTES);
            int lines = 0;
            for (; lines < BYTES && !tape.atEnd(); lines++) {
                if (!takeLine(house) || !tape.takeSign(';')) {
                    return NONE;
                }
            }
            return tape.ends() ? lines : NONE;
        }

        private boolean takeLine(House house) {
            Word first = tape.wordHere();
            if (first == Word.RUG) {
                return takeRug(house);
            }
            if (first == Word.PERSON) {
                return takePerson(house);
            }
            if (first == Word.WALL) {
                return takeWall(house);
            }
            if (first == Word.DOOR) {
                return takeDoor(house);
            }
            if (first == Word.WAY) {
                return takeWay(house);
            }
            return first == Word.FADE ? takeFade(house) : tape.refuse(1);
        }

        private boolean takeRug(House house) {
            if (house.width > 0) {
                return tape.refuse(3);
            }
            tape.advance();
            int width = tape.takeNumber(2, 12);
            if (width == NONE) {
                return false;
            }
            int height = tape.takeNumber(2, 12);
            if (height == NONE) {
                return false;
            }
            house.width = width;
            house.height = height;
            return true;
        }

        private boolean takeFade(House house) {
            if (house.fade > 0) {
                return tape.refuse(3);
            }
            tape.advance();
            int fade = tape.takeNumber(1, 9);
            if (fade == NONE) {
                return false;
            }
            house.fade = fade;
            return true;
        }

        /** Reads over a NAME that is not told yet; NONE with a FAULT. */
        private long takeNewName(House house) {
            long name = tape.nameHere();
            if (name == NONE) {
                return NONE;
            }
            if (house.personNamed(name) != NONE || house.wayNamed(name) != NONE) {
                tape.refuse(3);
                return NONE;
            }
            tape.advance();
            return name;
        }

        private boolean takePerson(House house) {
            int p = house.people;
            if (p < 0 || p >= PEOPLE) {
                return tape.refuse(4);
            }
            tape.advance();
            house.personName[p] = takeNewName(house);
            if (house.personName[p] == NONE) {
                return false;
            }
            house.weight[p] = tape.takeNumber(1, 9);
            if (house.weight[p] == NONE) {
                return false;
            }
            house.sole[p] = tape.takeNumber(0, 9);
            if (house.sole[p] == NONE) {
                return false;
            }
            house.pace[p] = tape.takeNumber(1, 9);
            if (house.pace[p] == NONE) {
                return false;
            }
            house.people++;
            return true;
        }

        /** Reads over X and comes to Y: the TUFT; NONE with a FAULT. Y is left for what is looked at there. */
        private int tuftHere(House house) {
            int x = tape.takeNumber(0, house.width - 1);
            if (x == NONE) {
                return NONE;
            }
            int y = tape.numberHere(0, house.height - 1);
            return y == NONE ? NONE : y * ACROSS + x;
        }

        private boolean takeWall(House house) {
            if (house.walls >= WALLS) {
                return tape.refuse(4);
            }
            tape.advance();
            int at = tuftHere(house);
            if (at < 0 || at >= TUFTS) {
                return false;
            }
            if (house.wall[at]) {
                return tape.refuse(3);
            }
            house.wall[at] = true;
            house.walls++;
            tape.advance();
            return true;
        }

        private boolean takeDoor(House house) {
            int door = house.doors;
            if (door < 0 || door >= DOORS) {
                return tape.refuse(4);
            }
            tape.advance();
            int at = tuftHere(house);
            if (at == NONE) {
                return false;
            }
            if (house.isDoor(at)) {
                return tape.refuse(3);
            }
            house.door[door] = at;
            house.doors++;
            tape.advance();
            return true;
        }

        private boolean takeWay(House house) {
            int way = house.ways;
            if (way < 0 || way >= WAYS) {
                return tape.refuse(4);
            }
            tape.advance();
            house.wayName[way] = takeNewName(house);
            if (house.wayName[way] == NONE) {
                return false;
            }
            int at = tuftHere(house);
            if (at == NONE) {
                return false;
            }
            if (house.isWall(at)) {
                return tape.refuse(5);
            }
            tape.advance();
            house.wayLength[way] = 0;
            house.lengthen(way, at);
            if (!takeSteps(house, way, at)) {
                return false;
            }
            house.ways++;
            return true;
        }

        private boolean takeSteps(House house, int way, int first) {
            int at = first;
            int gone = 0;
            for (int i = 0; i <= MOST_STEPS && tape.dirHere() != NONE; i++) {
                int dir = tape.dirHere();
                tape.advance();
                int far = tape.numberHere(1, 11);
                if (far == NONE) {
                    return false;
                }
                gone += far;
                if (gone > MOST_STEPS) {
                    return tape.refuse(4);
                }
                if (house.reach(at, dir, far) == NONE) {
                    return tape.refuse(5);
                }
                for (int k = 0; k < far; k++) {
                    at = house.stepFrom(at, dir);
                    house.lengthen(way, at);
                }
                tape.advance();
            }
            return true;
        }
    }

    /** What lies on the rug, what was beaten out of it, the DAY, and who walked how often. */
    private static final class Rug {
        /** Treads lie nine days at most, so those of a day stand in the slot of that day modulo 9. */
        private static final int SLOTS = 9;
        private static final int PRINTS = SLOTS * TUFTS * PEOPLE;

        int day = 0;
        private final int[] prints = new int[PRINTS];
        private final int[] lostWeight = new int[SLOTS * TUFTS];
        private final int[] topPerson = new int[TUFTS];
        private final int[] topSole = new int[TUFTS];
        private final int[] topDir = new int[TUFTS];
        private final int[] topDay = new int[TUFTS];
        private final int[] walks = new int[PEOPLE];

        Rug() {
            for (int at = 0; at < TUFTS; at++) {
                topPerson[at] = NONE;
            }
        }

        void clear() {
            day = 0;
            for (int i = 0; i < PRINTS; i++) {
                prints[i] = 0;
            }
            for (int i = 0; i < SLOTS * TUFTS; i++) {
                lostWeight[i] = 0;
            }
            for (int at = 0; at < TUFTS; at++) {
                topPerson[at] = NONE;
            }
            for (int p = 0; p < PEOPLE; p++) {
                walks[p] = 0;
            }
        }

        void copyFrom(Rug other) {
            day = other.day;
            System.arraycopy(other.prints, 0, prints, 0, PRINTS);
            System.arraycopy(other.lostWeight, 0, lostWeight, 0, SLOTS * TUFTS);
            System.arraycopy(other.topPerson, 0, topPerson, 0, TUFTS);
            System.arraycopy(other.topSole, 0, topSole, 0, TUFTS);
            System.arraycopy(other.topDir, 0, topDir, 0, TUFTS);
            System.arraycopy(other.topDay, 0, topDay, 0, TUFTS);
            System.arraycopy(other.walks, 0, walks, 0, PEOPLE);
        }

        private static boolean isTuft(int at) {
            return at >= 0 && at < TUFTS;
        }

        private static boolean isPerson(int p) {
            return p >= 0 && p < PEOPLE;
        }

        private static int slotOf(int day) {
            return Math.floorMod(day, SLOTS);
        }

        private static int indexOf(int slot, int at, int p) {
            return (slot * TUFTS + at) * PEOPLE + p;
        }

        /** How many days a tread of a slot lies yet. */
        private int daysLeft(House house, int slot) {
            return house.fadeDays() - Math.floorMod(day - slot, SLOTS);
        }

        int walksOf(int p) {
            return isPerson(p) ? walks[p] : 0;
        }

        boolean lies(int at) {
            return isTuft(at) && topPerson[at] != NONE;
        }

        /** The SOLE ON TOP; NONE: nothing lies. */
        int soleOn(int at) {
            return lies(at) ? topSole[at] : NONE;
        }

        /** Of the tread ON TOP: 2 the person, 3 the SOLE, 4 the DIR, 5 the age; NONE: nothing lies. */
        int onTop(int at, int what) {
            if (!lies(at)) {
                return NONE;
            }
            if (what == 2) {
                return topPerson[at];
            }
            if (what == 3) {
                return topSole[at];
            }
            return what == 4 ? topDir[at] : day - topDay[at];
        }

        /** How many treads of a person lie on a TUFT. */
        int printsByOn(int p, int at) {
            if (!isPerson(p) || !isTuft(at)) {
                return 0;
            }
            int found = 0;
            for (int slot = 0; slot < SLOTS; slot++) {
                found += prints[indexOf(slot, at, p)];
            }
            return found;
        }

        int printsOn(int at) {
            int found = 0;
            for (int p = 0; p < PEOPLE; p++) {
                found += printsByOn(p, at);
            }
            return found;
        }

        int printsBy(int p) {
            int found = 0;
            for (int at = 0; at < TUFTS; at++) {
                found += printsByOn(p, at);
            }
            return found;
        }

        int tuftsTrodBy(int p) {
            int found = 0;
            for (int at = 0; at < TUFTS; at++) {
                if (printsByOn(p, at) > 0) {
                    found++;
                }
            }
            return found;
        }

        boolean trodAlong(House house, int p, int way) {
            int length = house.lengthOf(way);
            for (int i = 0; i < length; i++) {
                if (printsByOn(p, house.tuftOf(way, i)) > 0) {
                    return true;
                }
            }
            return false;
        }

        private int weightOn(House house, int slot, int at) {
            int sum = 0;
            for (int p = 0; p < PEOPLE; p++) {
                sum += prints[indexOf(slot, at, p)] * house.weightOf(p);
            }
            return sum;
        }

        int depthOn(House house, int at) {
            int depth = 0;
            if (lies(at)) {
                for (int slot = 0; slot < SLOTS; slot++) {
                    depth += weightOn(house, slot, at) * daysLeft(house, slot);
                }
            }
            return depth;
        }

        /** The DEPTH of all that was beaten out of a TUFT and would lie yet. */
        int lostOn(House house, int at) {
            int depth = 0;
            if (isTuft(at)) {
                for (int slot = 0; slot < SLOTS; slot++) {
                    depth += lostWeight[slot * TUFTS + at] * daysLeft(house, slot);
                }
            }
            return depth;
        }

        /** A person walks along a WAY in a SOLE. */
        void tread(House house, int p, int way, int sole) {
            if (!isPerson(p)) {
                return;
            }
            int slot = slotOf(day);
            int length = house.lengthOf(way);
            for (int i = 0; i < length; i++) {
                int at = house.tuftOf(way, i);
                if (isTuft(at)) {
                    prints[indexOf(slot, at, p)]++;
                    topPerson[at] = p;
                    topSole[at] = sole;
                    topDir[at] = house.dirOf(way, i);
                    topDay[at] = day;
                }
            }
            walks[p]++;
        }

        /** Beats one TUFT: whether something lay there. */
        boolean beatOne(House house, int at) {
            if (!lies(at)) {
                return false;
            }
            for (int slot = 0; slot < SLOTS; slot++) {
                lostWeight[slot * TUFTS + at] += weightOn(house, slot, at);
                for (int p = 0; p < PEOPLE; p++) {
                    prints[indexOf(slot, at, p)] = 0;
                }
            }
            topPerson[at] = NONE;
            return true;
        }

        void letDayGo(int fade) {
            day++;
            int slot = slotOf(day - fade);
            for (int at = 0; at < TUFTS; at++) {
                for (int p = 0; p < PEOPLE; p++) {
                    prints[indexOf(slot, at, p)] = 0;
                }
                lostWeight[slot * TUFTS + at] = 0;
                if (day - topDay[at] >= fade) {
                    topPerson[at] = NONE;
                }
            }
        }
    }

    /** A WALK told, and how the latest one without a FAULT was judged. */
    private static final class Walk {
        private static final int BYTES = 300;
        private static final int LINES = 30;

        private int walker = NONE;
        private int first = NONE;
        private int lines = 0;
        private final int[] dir = new int[LINES];
        private final int[] far = new int[LINES];
        private final int[] minutes = new int[LINES];
        private boolean judged = false;
        private int why = 0;
        private int gone = 0;
        private int time = 0;
        private int reached = NONE;

        boolean take(Tape tape, House house) {
            lines = 0;
            tape.begin(BYTES);
            if (!takePerson(tape, house)) {
                return false;
            }
            for (int i = 0; i <= LINES && !tape.atEnd(); i++) {
                if (!takeLine(tape) || !tape.takeSign(';')) {
                    return false;
                }
            }
            return tape.ends();
        }

        private boolean takePerson(Tape tape, House house) {
            long name = tape.nameHere();
            if (name == NONE) {
                return false;
            }
            walker = house.personNamed(name);
            if (walker == NONE) {
                return tape.refuse(3);
            }
            tape.advance();
            int x = tape.takeNumber(0, house.width - 1);
            if (x == NONE) {
                return false;
            }
            int y = tape.takeNumber(0, house.height - 1);
            if (y == NONE) {
                return false;
            }
            first = y * ACROSS + x;
            return tape.takeSign(';');
        }

        private boolean takeLine(Tape tape) {
            int line = lines;
            int on = tape.dirHere();
            if (on == NONE) {
                return tape.refuse(1);
            }
            if (line < 0 || line >= LINES) {
                return tape.refuse(4);
            }
            tape.advance();
            dir[line] = on;
            far[line] = tape.takeNumber(1, 11);
            if (far[line] == NONE) {
                return false;
            }
            minutes[line] = tape.takeNumber(1, 99);
            if (minutes[line] == NONE) {
                return false;
            }
            lines++;
            return true;
        }

        /** The LINE that is WRONG; NONE: none. What is gone counts LINES ahead of that one alone. */
        int judge(House house) {
            judged = true;
            why = 0;
            gone = 0;
            time = 0;
            reached = NONE;
            if (house.isWall(first)) {
                why = 1;
                return 0;
            }
            reached = first;
            for (int i = 0; i < lines && i < LINES; i++) {
                int to = house.reach(reached, dir[i], far[i]);
                why = to == NONE ? 1 : wrongOf(house, i);
                if (why != 0) {
                    return i + 1;
                }
                gone += far[i];
                time += minutes[i];
                reached = to;
            }
            return NONE;
        }

        private int wrongOf(House house, int i) {
            if (i < 0 || i >= LINES) {
                return 0;
            }
            if (far[i] > house.paceOf(walker) * minutes[i]) {
                return 2;
            }
            boolean turns = i > 0 && Math.abs(dir[i] - dir[i - 1]) == 2;
            return turns && minutes[i] == 1 ? 3 : 0;
        }

        int outcome(int what) {
            if (!judged) {
                return NONE;
            }
            switch (what) {
                case 0:
                    return why;
                case 1:
                    return gone;
                case 2:
                    return time;
                case 3:
                    return reached;
                default:
                    return NONE;
            }
        }
    }

    /** A SENTENCE, as steps over a stack of truths: a leaf puts one on it, 'not' turns it, 'and', 'or' join two. */
    private static final class Sentence {
        private static final int BYTES = 200;
        private static final int MOST_ONES = 20;
        private static final int MOST_WITHIN = 8;
        private static final int STEPS = 64;
        private static final int NOT = 6;
        private static final int AND = 7;
        private static final int OR = 8;
        private static final int TROD = 9;

        /** 0: there is no SENTENCE. */
        int ones = 0;
        private int size = 0;
        private final int[] act = new int[STEPS];
        private final int[] by = new int[STEPS];
        private final int[] number = new int[STEPS];

        void clear() {
            ones = 0;
            size = 0;
        }

        void copyFrom(Sentence other) {
            ones = other.ones;
            size = other.size;
            System.arraycopy(other.act, 0, act, 0, STEPS);
            System.arraycopy(other.by, 0, by, 0, STEPS);
            System.arraycopy(other.number, 0, number, 0, STEPS);
        }

        boolean take(Tape tape, House house) {
            clear();
            tape.begin(BYTES);
            return takeCond(tape, house, 0) && tape.ends();
        }

        private void put(int what, int sort, int value) {
            if (size >= 0 && size < STEPS) {
                act[size] = what;
                by[size] = sort;
                number[size] = value;
                size++;
            }
        }

        private boolean takeCond(Tape tape, House house, int within) {
            if (!takeAll(tape, house, within)) {
                return false;
            }
            for (int i = 0; i < MOST_ONES && tape.wordHere() == Word.OR; i++) {
                tape.advance();
                if (!takeAll(tape, house, within)) {
                    return false;
                }
                put(OR, 0, 0);
            }
            return true;
        }

        private boolean takeAll(Tape tape, House house, int within) {
            if (!takeOne(tape, house, within)) {
                return false;
            }
            for (int i = 0; i < MOST_ONES && tape.wordHere() == Word.AND; i++) {
                tape.advance();
                if (!takeOne(tape, house, within)) {
                    return false;
                }
                put(AND, 0, 0);
            }
            return true;
        }

        private boolean takeOne(Tape tape, House house, int within) {
            boolean negates = tape.wordHere() == Word.NOT;
            boolean opens = tape.signHere() == '(';
            boolean trod = tape.wordHere() == Word.TROD;
            if (!negates && !opens && !trod && tape.measuredHere() == NONE) {
                return tape.refuse(1);
            }
            if (ones >= MOST_ONES || within >= MOST_WITHIN) {
                return tape.refuse(4);
            }
            ones++;
            if (opens) {
                tape.advance();
                return takeCond(tape, house, within + 1) && tape.takeSign(')');
            }
            if (trod) {
                return takeTrod(tape, house);
            }
            if (!negates) {
                return takeMeasure(tape);
            }
            tape.advance();
            if (!takeOne(tape, house, within + 1)) {
                return false;
            }
            put(NOT, 0, 0);
            return true;
        }

        private boolean takeTrod(Tape tape, House house) {
            tape.advance();
            long name = tape.nameHere();
            if (name == NONE) {
                return false;
            }
            int way = house.wayNamed(name);
            if (way == NONE) {
                return tape.refuse(3);
            }
            put(TROD, 0, way);
            tape.advance();
            return true;
        }

        private boolean takeMeasure(Tape tape) {
            int what = tape.measuredHere();
            tape.advance();
            int sort = tape.signHere();
            if (sort != '<' && sort != '=' && sort != '>') {
                return tape.refuse(1);
            }
            tape.advance();
            int value = tape.takeNumber(0, 999);
            if (value == NONE) {
                return false;
            }
            put(what, sort, value);
            return true;
        }

        boolean holdsOf(House house, Rug rug, int p) {
            int truths = 0;
            for (int i = 0; i < size && i < STEPS; i++) {
                int top = truths & 1;
                int below = (truths >> 1) & 1;
                if (act[i] == NOT) {
                    truths ^= 1;
                } else if (act[i] == AND) {
                    truths = (truths >> 2) << 1 | (top & below);
                } else if (act[i] == OR) {
                    truths = (truths >> 2) << 1 | (top | below);
                } else {
                    truths = truths << 1 | (leafHolds(house, rug, p, i) ? 1 : 0);
                }
            }
            return (truths & 1) == 1;
        }

        private boolean leafHolds(House house, Rug rug, int p, int i) {
            if (i < 0 || i >= STEPS) {
                return false;
            }
            if (act[i] == TROD) {
                return rug.trodAlong(house, p, number[i]);
            }
            int value = measure(house, rug, p, act[i]);
            if (by[i] == '<') {
                return value < number[i];
            }
            return by[i] == '=' ? value == number[i] : value > number[i];
        }
    }

    /** READINGS of a clean rug, and what the latest ones that were 1 or more tell. */
    private static final class Readings {
        private static final int MOST_TOLD = 8;
        private static final int ANY_SOLE = 255;
        private static final int UNLIKE = -2;
        private static final int NO_SUCH = -3;

        int fewestPeople = NONE;
        private int told = 0;
        private final int[] at = new int[MOST_TOLD];
        private final int[] sole = new int[MOST_TOLD];
        private final int[] lastWay = new int[MOST_TOLD];
        private final int[] passes = new int[WAYS * MOST_TOLD];
        private final boolean[] free = new boolean[WAYS];
        /** By how many WAYS are settled, and by told TUFT: the DEPTH that lacks yet, the most that can come yet. */
        private final int[] lacks = new int[(WAYS + 1) * MOST_TOLD];
        private final int[] mayCome = new int[(WAYS + 1) * MOST_TOLD];
        /** Likewise the SOLE ON TOP so far. */
        private final int[] top = new int[(WAYS + 1) * MOST_TOLD];
        private final int[] chosen = new int[WAYS];
        private int found = 0;
        private int waysRead = 0;
        private boolean anyRead = false;
        private final int[] first = new int[WAYS];
        private final int[] byAll = new int[WAYS];

        int find(Tape tape, House house) {
            if (!take(tape, house)) {
                return NONE;
            }
            lookAtWays(house);
            found = 0;
            if (mayFit()) {
                settle(house, 0, 0);
            }
            if (found > 0) {
                anyRead = true;
                waysRead = house.ways;
                addFreeWays(house);
            }
            return found;
        }

        private boolean take(Tape tape, House house) {
            int many = tape.length / 4;
            if (tape.length % 4 != 0 || many < 1 || many > MOST_TOLD) {
                return false;
            }
            told = many;
            for (int t = 0; t < told && t < MOST_TOLD; t++) {
                int x = tape.byteAt(4 * t);
                int y = tape.byteAt(4 * t + 1);
                int ofSole = tape.byteAt(4 * t + 3);
                if (x >= house.width || y >= house.height || ofSole > 9 && ofSole != ANY_SOLE) {
                    return false;
                }
                at[t] = y * ACROSS + x;
                lacks[t] = tape.byteAt(4 * t + 2);
                top[t] = NONE;
                sole[t] = ofSole;
            }
            return true;
        }

        /** From the last WAY back: how often each goes over told TUFTS, and the DEPTH that can come from it on. */
        private void lookAtWays(House house) {
            int most = heaviest(house) * house.fadeDays();
            for (int t = 0; t < MOST_TOLD; t++) {
                lastWay[t] = NONE;
                mayCome[WAYS * MOST_TOLD + t] = 0;
            }
            for (int way = WAYS - 1; way >= 0; way--) {
                free[way] = true;
                for (int t = 0; t < told && t < MOST_TOLD; t++) {
                    int i = way * MOST_TOLD + t;
                    passes[i] = house.passes(way, at[t]);
                    mayCome[i] = mayCome[i + MOST_TOLD] + passes[i] * most;
                    if (passes[i] > 0) {
                        free[way] = false;
                        lastWay[t] = Math.max(lastWay[t], way);
                    }
                }
            }
        }

        private static int heaviest(House house) {
            int most = 0;
            for (int p = 0; p < house.people; p++) {
                most = Math.max(most, house.weightOf(p));
            }
            return most;
        }

        /** Whether there can be READINGS: no TUFT too deep, and no SOLE where no WAY goes. */
        private boolean mayFit() {
            for (int t = 0; t < told && t < MOST_TOLD; t++) {
                if (lacks[t] > mayCome[t] || lastWay[t] == NONE && sole[t] != ANY_SOLE) {
                    return false;
                }
            }
            return true;
        }

        /** Finds all READINGS that go on from the WAYS ahead of this one as they are chosen; walkers as bits. */
        private void settle(House house, int way, int walkers) {
            if (way >= house.ways || way < 0 || way >= WAYS) {
                record(house, Integer.bitCount(walkers));
                return;
            }
            // A WAY over none of the told TUFTS can be anybody's: nobody stands for all until addFreeWays.
            int people = free[way] ? 0 : house.people;
            for (int p = NONE; p < people; p++) {
                chosen[way] = p;
                if (mayWalk(house, way, p)) {
                    settle(house, way + 1, p == NONE ? walkers : walkers | 1 << p);
                }
            }
        }

        private boolean mayWalk(House house, int way, int p) {
            if (way < 0 || way >= WAYS) {
                return false;
            }
            int each = house.weightOf(p) * house.fadeDays();
            for (int t = 0; t < told && t < MOST_TOLD; t++) {
                int i = way * MOST_TOLD + t;
                int next = i + MOST_TOLD;
                lacks[next] = lacks[i] - passes[i] * each;
                top[next] = p != NONE && passes[i] > 0 ? house.soleOf(p) : top[i];
                if (lacks[next] < 0 || lacks[next] > mayCome[next]) {
                    return false;
                }
                if (lastWay[t] == way && sole[t] != ANY_SOLE && sole[t] != top[next]) {
                    return false;
                }
            }
            return true;
        }

        private void record(House house, int people) {
            found++;
            if (found == 1 || people < fewestPeople) {
                fewestPeople = people;
            }
            for (int way = 0; way < house.ways && way < WAYS; way++) {
                if (found == 1) {
                    first[way] = chosen[way];
                    byAll[way] = chosen[way];
                } else if (byAll[way] != chosen[way]) {
                    byAll[way] = UNLIKE;
                }
            }
        }

        private void addFreeWays(House house) {
            for (int way = 0; way < house.ways && way < WAYS; way++) {
                if (free[way] && house.people > 0) {
                    found *= house.people + 1;
                    byAll[way] = UNLIKE;
                }
            }
        }

        int walkerOf(int way, int what) {
            if (!anyRead || way < 0 || way >= waysRead || way >= WAYS || what < 0 || what > 1) {
                return NO_SUCH;
            }
            return what == 0 ? first[way] : byAll[way];
        }
    }

    /** How a person crosses with least SIGN, and with fewest STEPS of these. */
    private static final class Crossing {
        /** More than any crossing has STEPS: one mark weighs more than all of them. */
        private static final int MARK = 1000;
        private static final int FAR = 1000000;

        int marks = 0;
        int stepsGone = 0;
        private final int[] cost = new int[TUFTS];
        private final boolean[] settled = new boolean[TUFTS];

        boolean find(House house, Rug rug, int p, int from, int to) {
            if (!house.isPerson(p) || !isFree(house, from) || !isFree(house, to)) {
                return false;
            }
            for (int at = 0; at < TUFTS; at++) {
                cost[at] = FAR;
                settled[at] = false;
            }
            int own = house.soleOf(p);
            if (from >= 0 && from < TUFTS) {
                cost[from] = markOf(rug, from, own);
            }
            for (int i = 0; i < TUFTS; i++) {
                int at = nearest();
                if (at == NONE || at == to) {
                    break;
                }
                settleAt(house, rug, at, own);
            }
            int best = to >= 0 && to < TUFTS ? cost[to] : FAR;
            marks = best / MARK;
            stepsGone = best % MARK;
            return best < FAR;
        }

        private static boolean isFree(House house, int at) {
            return house.onRug(at) && !house.isWall(at);
        }

        private static int markOf(Rug rug, int at, int own) {
            return rug.soleOn(at) == own ? 0 : MARK;
        }

        private int nearest() {
            int best = NONE;
            for (int at = 0; at < TUFTS; at++) {
                if (!settled[at] && cost[at] < FAR && (best == NONE || cost[at] < cost[best])) {
                    best = at;
                }
            }
            return best;
        }

        private void settleAt(House house, Rug rug, int at, int own) {
            if (at < 0 || at >= TUFTS) {
                return;
            }
            settled[at] = true;
            for (int dir = 0; dir < 4; dir++) {
                int on = house.stepFrom(at, dir);
                if (on >= 0 && on < TUFTS && isFree(house, on)) {
                    cost[on] = Math.min(cost[on], cost[at] + 1 + markOf(rug, on, own));
                }
            }
        }
    }

    /**
     * Where to lay rugs: as many ways on between two doors as share no TUFT (a flow) are as many as the fewest TUFTS
     * that see all ways on. Each TUFT is two places, where one comes in (2 * at) and where one goes out (2 * at + 1).
     */
    private static final class Lookout {
        private static final int MOST_LAID = 4;

        private int from = NONE;
        private int to = NONE;
        private final boolean[] shut = new boolean[TUFTS];
        private final boolean[] carries = new boolean[TUFTS];
        private final boolean[] flows = new boolean[TUFTS * 4];
        private final int[] cameFrom = new int[TUFTS * 2];
        private final int[] queue = new int[TUFTS * 2];
        private int queued = 0;
        private int laidCount = 0;
        private final int[] row = new int[MOST_LAID];

        int laid(int i) {
            return i >= 0 && i < laidCount && i < MOST_LAID ? row[i] : NONE;
        }

        /** SEEN between two TUFTS that are not beside each other: how many. */
        int find(House house, int a, int b) {
            from = a;
            to = b;
            laidCount = 0;
            if (house.isWall(a) || house.isWall(b)) {
                return 0;
            }
            for (int at = 0; at < TUFTS; at++) {
                shut[at] = house.isWall(at);
            }
            int most = Math.min(fill(house), MOST_LAID);
            for (int at = 0; at < TUFTS && laidCount < most; at++) {
                if (carries[at] && at != from && at != to && !canGo(house, 2 * at, 2 * at + 1)) {
                    row[laidCount] = at;
                    laidCount++;
                    shut[at] = true;
                    fill(house);
                }
            }
            return laidCount;
        }

        /** Fills the rug with as many ways on as share no TUFT: how many. */
        private int fill(House house) {
            for (int at = 0; at < TUFTS; at++) {
                // Both doors are no TUFTS to be freed by turning a way off them.
                carries[at] = at == from || at == to;
            }
            for (int i = 0; i < TUFTS * 4; i++) {
                flows[i] = false;
            }
            int many = 0;
            for (int i = 0; i < MOST_LAID && canGo(house, 2 * from + 1, 2 * to); i++) {
                turn(house);
                many++;
            }
            return many;
        }

        /** Whether a way on (that may turn laid ones off) leads from a place to another one: breadth first. */
        private boolean canGo(House house, int start, int goal) {
            for (int i = 0; i < TUFTS * 2; i++) {
                cameFrom[i] = NONE;
            }
            queued = 0;
            visit(start, start);
            for (int i = 0; i < queued && i < TUFTS * 2; i++) {
                if (queue[i] == goal) {
                    return true;
                }
                if (queue[i] % 2 == 0) {
                    goOnFromIn(house, queue[i] / 2);
                } else {
                    goOnFromOut(house, queue[i] / 2);
                }
            }
            return false;
        }

        private void visit(int place, int ahead) {
            if (place >= 0 && place < TUFTS * 2 && cameFrom[place] == NONE && queued >= 0 && queued < TUFTS * 2) {
                cameFrom[place] = ahead;
                queue[queued] = place;
                queued++;
            }
        }

        private void goOnFromIn(House house, int at) {
            if (at < 0 || at >= TUFTS) {
                return;
            }
            if (!carries[at]) {
                visit(2 * at + 1, 2 * at);
                return;
            }
            for (int dir = 0; dir < 4; dir++) {
                int back = house.stepFrom(at, dir);
                if (back >= 0 && back < TUFTS && flows[back * 4 + (dir + 2) % 4]) {
                    visit(2 * back + 1, 2 * at);
                }
            }
        }

        private void goOnFromOut(House house, int at) {
            if (at < 0 || at >= TUFTS) {
                return;
            }
            if (carries[at]) {
                visit(2 * at, 2 * at + 1);
            }
            for (int dir = 0; dir < 4; dir++) {
                int on = house.stepFrom(at, dir);
                if (on >= 0 && on < TUFTS && !shut[on] && on != from && !flows[at * 4 + dir]) {
                    visit(2 * on, 2 * at + 1);
                }
            }
        }

        /** Lays the way on just found, and turns off what it goes back over. */
        private void turn(House house) {
            int place = 2 * to;
            for (int i = 0; i < TUFTS * 2 && place >= 0 && place < TUFTS * 2 && place != 2 * from + 1; i++) {
                int ahead = cameFrom[place];
                if (ahead >= 0 && place / 2 == ahead / 2) {
                    carries[place / 2] = place % 2 == 1;
                } else if (ahead >= 0 && place % 2 == 0) {
                    setFlow(house, ahead / 2, place / 2, true);
                } else if (ahead >= 0) {
                    setFlow(house, place / 2, ahead / 2, false);
                }
                place = ahead;
            }
        }

        private void setFlow(House house, int at, int on, boolean flow) {
            for (int dir = 0; dir < 4; dir++) {
                if (at >= 0 && at < TUFTS && house.stepFrom(at, dir) == on) {
                    flows[at * 4 + dir] = flow;
                }
            }
        }
    }
}
