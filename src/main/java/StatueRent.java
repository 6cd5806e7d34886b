import java.util.NoSuchElementException;

/**
 * Statues that pay rent: a CITY told as a text, the DAYS that go by in it, and what may be asked of both.
 * All rows are made with the object and used again, so that no call needs room of its own.
 */
public final class StatueRent {
    public static final int NONE = -1;

    // the sorts of NAMES
    private static final int SQUARES = 0;
    private static final int KINDS = 1;
    private static final int STATUES = 2;
    private static final int WALKERS = 3;
    private static final int SORTS = 4;

    private static final int ROW = 8;
    private static final int KINDS_MOST = 5;
    private static final int PATHS_MOST = 16;
    private static final int[] MOST = {ROW, KINDS_MOST, ROW, ROW};

    private static final int TAPE_BYTES = 940;
    private static final int CITY_BYTES = 900;
    private static final int LOG_BYTES = 400;
    private static final int SENTENCE_BYTES = 200;

    private static final int LINES_MOST = 40;
    private static final int ONES_MOST = 20;
    private static final int WITHIN_MOST = 8;

    private static final int DAYS_ALL = 400;
    private static final int DAYS_MOST = 60;
    private static final int ODDS_DAYS = 20;
    private static final int ODDS_MOST = 30;
    private static final int ARREARS_MOST = 9;
    private static final int ARREARS_UNTOLD = 3;
    private static final int LIKES_MOST = 12;
    private static final int LIKES_UNTOLD = 6;
    private static final int TIRED_MOST = 3;
    private static final int PURSE_MOST = 999;
    private static final int LEND_MOST = 99;
    private static final int CLEAN_PENCE = 5;
    private static final int SHOW_PENCE = 10;
    private static final int MOVE_PENCE = 8;
    private static final int ROUNDS_MOST = 60;
    private static final int PAIRS_MOST = 20;
    private static final int UNDO_MOST = 8;
    private static final int IMAGES = 2;
    private static final int PLAQUE_BYTES = 32;

    // the FAULTS
    private static final int NOT_HERE = 1;
    private static final int NOT_IN_RANGE = 2;
    private static final int NOT_SO_NAMED = 3;
    private static final int TOO_MANY = 4;

    // what a TOKEN may be; a WORD is one of those that no NAME may be
    private static final int END = 0;
    private static final int NO_TOKEN = 1;
    private static final int NAME = 2;
    private static final int WORD = 3;
    private static final int NUMBER = 4;
    private static final int SIGN = 5;

    // the numbers below are the places of these words, from 0
    private static final String WORDS = "square path kind statue walker likes arrears moves cleans shows lends day or and not evicted stained solvent of at purse owes glances number";
    private static final int WORDS_ALL = 24;
    private static final int W_SQUARE = 0;
    private static final int W_PATH = 1;
    private static final int W_KIND = 2;
    private static final int W_STATUE = 3;
    private static final int W_WALKER = 4;
    private static final int W_LIKES = 5;
    private static final int W_ARREARS = 6;
    private static final int W_MOVES = 7;
    private static final int W_CLEANS = 8;
    private static final int W_SHOWS = 9;
    private static final int W_LENDS = 10;
    private static final int W_DAY = 11;
    private static final int W_OR = 12;
    private static final int W_AND = 13;
    private static final int W_NOT = 14;
    private static final int W_EVICTED = 15;
    private static final int W_STAINED = 16;
    private static final int W_SOLVENT = 17;
    private static final int W_OF = 18;
    private static final int W_AT = 19;
    private static final int W_PURSE = 20;
    private static final int W_OWES = 21;
    private static final int W_GLANCES = 22;
    private static final int W_NUMBER = 23;

    private final Tape tape = new Tape();
    private final World world = new World();
    private final City city = world.city;
    private final Life life = world.life;
    private final World[] images = new World[IMAGES];
    private int imagesKept = 0;
    private final Life spare = new Life(city);
    private final Past past = new Past(life);
    private final CityReader cityReader = new CityReader(tape);
    private final LogReader logReader = new LogReader(tape, city);
    private final SentenceReader sentenceReader = new SentenceReader(tape, city);
    private final Reckoning reckoning = new Reckoning(city, life);
    private final Guide guide = new Guide(city, life);
    private final Guesses guesses = new Guesses(tape, city, life);
    private final int[] plaqueBytes = new int[PLAQUE_BYTES];
    private int plaqueLength = 0;

    public StatueRent() {
        for (int k = 0; k < IMAGES; k++) {
            images[k] = new World();
        }
    }

    public int feed(int a, int b, int c, int d, int e) {
        if (tape.length + 20 > TAPE_BYTES) {
            return NONE;
        }
        tape.put(a);
        tape.put(b);
        tape.put(c);
        tape.put(d);
        tape.put(e);
        return tape.length;
    }

    public boolean end(int n) {
        if (n < 0 || n > tape.length) {
            return false;
        }
        tape.length = n;
        return true;
    }

    public int city() {
        int lines = cityReader.readCity();
        tape.length = 0;
        if (tape.fault != 0) {
            return -1 - tape.at;
        }
        world.copyFrom(cityReader.draft);
        past.forget();
        return lines;
    }

    public int fault() {
        return tape.fault;
    }

    public int square(int q, int what) {
        if (!city.has(SQUARES, q)) {
            return NONE;
        }
        switch (what) {
            case 0:
                return city.rent[q];
            case 1:
                return life.standing[q];
            case 2:
                return city.near[q];
            case 3:
                return city.walkersThrough(q);
            default:
                return NONE;
        }
    }

    public int statue(int a, int what) throws NoSuchElementException {
        if (!city.has(STATUES, a)) {
            throw new NoSuchElementException();
        }
        switch (what) {
            case 0:
                return life.kind[a];
            case 1:
                return life.place[a];
            case 2:
                return life.purse[a];
            case 3:
                return life.owes[a];
            case 4:
                return city.bribe[a];
            case 5:
                return life.stained >> a & 1;
            case 6:
                return life.seen[a];
            case 7:
                return life.evicted >> a & 1;
            default:
                throw new NoSuchElementException();
        }
    }

    public int walker(int w, int what) throws NoSuchElementException {
        if (!city.has(WALKERS, w)) {
            throw new NoSuchElementException();
        }
        switch (what) {
            case 0:
                return city.from[w];
            case 1:
                return city.to[w];
            case 2:
                return city.every[w];
            case 3:
                return city.worth[w];
            case 4:
                return city.wayLength[w];
            case 5:
                return life.given[w];
            case 6:
                return life.kindsTiredOf(w);
            default:
                throw new NoSuchElementException();
        }
    }

    public int way(int w, int k) {
        if (!city.has(WALKERS, w) || k < 0 || k >= city.wayLength[w]) {
            return NONE;
        }
        return city.ways[w * ROW + k];
    }

    public int likes(int w, int k, int what) {
        if (!city.has(WALKERS, w) || !city.has(KINDS, k)) {
            return NONE;
        }
        switch (what) {
            case 0:
                return city.liking[w * KINDS_MOST + k];
            case 1:
                return life.tired[w * KINDS_MOST + k];
            case 2:
                return life.chance(w, k);
            default:
                return NONE;
        }
    }

    public int now(int what) {
        switch (what) {
            case 0:
                return life.day;
            case 1:
                return life.evicted;
            case 2:
                return life.allOf(life.purse);
            case 3:
                return life.allOf(life.owes);
            case 4:
                return life.paid;
            case 5:
                return life.allOf(life.seen);
            case 6:
                return life.stained;
            default:
                return NONE;
        }
    }

    public int move(int a, int q) {
        if (!city.has(STATUES, a) || !city.has(SQUARES, q)) {
            return NONE;
        }
        spare.copyFrom(life);
        return keptIfDone(life.tryMove(a, q));
    }

    public int clean(int a) {
        if (!city.has(STATUES, a)) {
            return NONE;
        }
        spare.copyFrom(life);
        return keptIfDone(life.tryClean(a));
    }

    public int show(int a, int k) {
        if (!city.has(STATUES, a) || !city.has(KINDS, k)) {
            return NONE;
        }
        spare.copyFrom(life);
        return keptIfDone(life.tryShow(a, k));
    }

    public int lend(int a, int b, int n) {
        if (!city.has(STATUES, a) || !city.has(STATUES, b) || a == b || n < 1 || n > LEND_MOST) {
            return NONE;
        }
        spare.copyFrom(life);
        return keptIfDone(life.tryLend(a, b, n));
    }

    public int days(int n, int seed) {
        if (n < 1 || n > DAYS_MOST) {
            return NONE;
        }
        spare.copyFrom(life);
        int gone = life.live(n, seed);
        if (gone > 0) {
            past.keep(spare);
        }
        return gone;
    }

    /** The spare life is as all was ahead of the act. */
    private int keptIfDone(int whyNot) {
        if (whyNot == 0) {
            past.keep(spare);
        }
        return whyNot;
    }

    public int undo() {
        return past.takeBack();
    }

    public int yields(int a, int q, int k, int what) throws NoSuchElementException {
        if (!city.has(STATUES, a) || !city.has(SQUARES, q) || !city.has(KINDS, k) || !isHalf(what)) {
            throw new NoSuchElementException();
        }
        return told(reckoning.yieldOf(q, k, bit(life.stained, a), 0), Reckoning.PARTS, what);
    }

    public int solvent() {
        return reckoning.allSolvent();
    }

    public int today(int a, int what) throws NoSuchElementException {
        if (!city.has(STATUES, a) || !isHalf(what) || bit(life.evicted, a) || life.day >= DAYS_ALL) {
            throw new NoSuchElementException();
        }
        return told(reckoning.earnedToday(a), LIKES_MOST, what);
    }

    public int placing(int what) throws NoSuchElementException {
        if (!isHalf(what)) {
            throw new NoSuchElementException();
        }
        return told(reckoning.placeAll(), Reckoning.PARTS, what);
    }

    public int placed(int a) {
        if (!city.has(STATUES, a) || bit(life.evicted, a)) {
            return NONE;
        }
        reckoning.placeAll();
        return reckoning.placedAt[a];
    }

    public int route(int q, int n) {
        if (!city.has(SQUARES, q) || n < 1 || n > ROW) {
            return NONE;
        }
        return guide.tellRoute(q, n);
    }

    public int routeAt(int k) {
        if (k < 0 || k >= guide.toldLength) {
            return NONE;
        }
        return guide.told[k];
    }

    public int bids(int q, int n) {
        if (!city.has(SQUARES, q) || n < 1 || n > ROW) {
            return NONE;
        }
        return guide.takeBids(q, n);
    }

    public int bid(int a) {
        if (a < 0 || a >= guide.bidders) {
            return NONE;
        }
        return guide.bidden[a];
    }

    public int cure(int a) {
        if (!city.has(STATUES, a) || bit(life.evicted, a)) {
            return NONE;
        }
        return reckoning.findCure(a);
    }

    public int cured(int what) {
        switch (what) {
            case 0:
                return reckoning.curedCleaned;
            case 1:
                return reckoning.curedKind;
            case 2:
                return reckoning.curedSquare;
            default:
                return NONE;
        }
    }

    public int taste(int w) {
        int sets = city.has(WALKERS, w) ? guesses.guessTaste() : NONE;
        tape.length = 0;
        return sets;
    }

    public int surely() {
        return guesses.sureKinds;
    }

    public int tells() {
        return guesses.telling;
    }

    public int plot(int a) {
        if (!city.has(STATUES, a) || bit(life.evicted, a)) {
            return NONE;
        }
        return reckoning.findPlot(a);
    }

    public int plotters() {
        return reckoning.plotting;
    }

    public int law(int set, int n, int seed) {
        int all = (1 << city.counts[STATUES]) - 1;
        if ((set & ~all) != 0 || (set & life.evicted) != 0 || n < 1 || n > DAYS_MOST) {
            return NONE;
        }
        for (int arrears = 1; arrears <= ARREARS_MOST; arrears++) {
            spare.copyFrom(life);
            if (spare.liveTillEviction(n, seed, arrears, set) == NONE) {
                return arrears;
            }
        }
        return NONE;
    }

    public int bare(int n, int seed) {
        if (n < 1 || n > DAYS_MOST) {
            return NONE;
        }
        spare.copyFrom(life);
        return spare.liveTillEviction(n, seed, city.arrears, (1 << ROW) - 1);
    }

    public int grass() {
        int sets = guesses.guessGrass();
        tape.length = 0;
        return sets;
    }

    public int trodden() {
        return guesses.sureWalkers;
    }

    public int odds(int a, int n, int seed) {
        if (!city.has(STATUES, a) || n < 1 || n > ODDS_MOST) {
            return NONE;
        }
        if (bit(life.evicted, a)) {
            return 0;
        }
        int stays = 0;
        for (int i = 0; i < n; i++) {
            spare.copyFrom(life);
            if (spare.liveTillEviction(ODDS_DAYS, seed + i, city.arrears, 1 << a) == NONE) {
                stays++;
            }
        }
        return stays;
    }

    public int plaque(int a) {
        if (!city.has(STATUES, a)) {
            return NONE;
        }
        plaqueLength = 0;
        engraveName(city.names[STATUES * ROW + a]);
        if (life.owes[a] > 0) {
            engrave(" owes ");
            engraveNumber(life.owes[a]);
            return plaqueLength;
        }
        engrave(" is at ");
        int q = life.place[a];
        if (q == NONE) {
            engrave("nowhere");
        } else {
            engraveName(city.names[SQUARES * ROW + q]);
        }
        return plaqueLength;
    }

    private void engraveByte(int sign) {
        if (plaqueLength < PLAQUE_BYTES) {
            plaqueBytes[plaqueLength] = sign;
            plaqueLength++;
        }
    }

    private void engrave(String text) {
        for (int i = 0; i < text.length(); i++) {
            engraveByte(text.charAt(i));
        }
    }

    private void engraveName(long name) {
        for (int shift = Tape.NAME_SHIFT; shift >= 0; shift -= Tape.LETTER_BITS) {
            int letter = (int) (name >>> shift) & Tape.LETTER_MASK;
            if (letter > 0) {
                engraveByte('a' + letter - 1);
            }
        }
    }

    private void engraveNumber(int number) {
        boolean begun = false;
        for (int ten = 1000000000; ten > 0; ten /= 10) {
            int digit = number / ten % 10;
            begun = begun || digit > 0 || ten == 1;
            if (begun) {
                engraveByte('0' + digit);
            }
        }
    }

    public int byteAt(int i) {
        if (i < 0 || i >= plaqueLength) {
            return NONE;
        }
        return plaqueBytes[i];
    }

    public int log(int lives) {
        if (lives != 0 && lives != 1) {
            return -1000;
        }
        logReader.readLog();
        tape.length = 0;
        if (tape.fault != 0) {
            return -2 - tape.at;
        }
        spare.copyFrom(life);
        if (lives == 0) {
            return logReader.liveThrough(spare);
        }
        int wrongLine = logReader.liveThrough(life);
        // a LOG of which no LINE was lived leaves nothing that could be undone
        if (logReader.linesDone > 0) {
            past.keep(spare);
        }
        return wrongLine;
    }

    public int logged(int what) {
        if (!logReader.judged) {
            return NONE;
        }
        switch (what) {
            case 0:
                return logReader.whyWrong;
            case 1:
                return logReader.linesDone;
            case 2:
                return logReader.dayThen;
            case 3:
                return logReader.evictedThen;
            default:
                return NONE;
        }
    }

    public int sentence() {
        int ones = sentenceReader.readSentence();
        tape.length = 0;
        if (tape.fault != 0) {
            return -1 - tape.at;
        }
        world.sentence.copyFrom(sentenceReader.draft);
        return ones;
    }

    public int said(int k) {
        if (world.sentence.steps == 0) {
            return NONE;
        }
        int whom = world.sentence.trueOf(city, life, reckoning.allSolvent());
        if (k == NONE) {
            return Integer.bitCount(whom);
        }
        return k < 0 ? NONE : nth(whom, k);
    }

    public boolean image(int k) {
        if (k < 0 || k >= IMAGES) {
            return false;
        }
        images[k].copyFrom(world);
        imagesKept |= 1 << k;
        return true;
    }

    public boolean restore(int k) {
        if (k < 0 || k >= IMAGES || !bit(imagesKept, k)) {
            return false;
        }
        world.copyFrom(images[k]);
        past.forget();
        return true;
    }

    public int count(int what) {
        switch (what) {
            case 0:
                return city.counts[SQUARES];
            case 1:
                return city.paths;
            case 2:
                return city.counts[KINDS];
            case 3:
                return city.counts[STATUES];
            case 4:
                return city.counts[WALKERS];
            case 5:
                return city.arrears;
            case 6:
                return tape.length;
            default:
                return NONE;
        }
    }

    private static boolean bit(int bits, int i) {
        return (bits >> i & 1) != 0;
    }

    /** The k-th (from 0) of those in a set; NONE if there are not so many. */
    private static int nth(int bits, int k) {
        int left = k;
        for (int i = 0; i < ROW; i++) {
            if (bit(bits, i)) {
                if (left == 0) {
                    return i;
                }
                left--;
            }
        }
        return NONE;
    }

    /** Whether it asks for what is above or below in a fraction. */
    private static boolean isHalf(int what) {
        return what == 0 || what == 1;
    }

    /** What is above (what 0) or below in a fraction in least terms; below must be above 0. */
    private static int told(int above, int below, int what) {
        int a = Math.abs(above);
        int b = below;
        // by Euclid's way both shrink faster than halving every other time
        for (int i = 0; i < 100 && a != 0; i++) {
            int rest = b % a;
            b = a;
            a = rest;
        }
        if (b <= 0) {
            return 0;
        }
        return (what == 0 ? above : below) / b;
    }

    private static void copy(int[] source, int[] target) {
        System.arraycopy(source, 0, target, 0, Math.min(source.length, target.length));
    }

    private static void fill(int[] row, int value) {
        for (int i = 0; i < row.length; i++) {
            row[i] = value;
        }
    }

    /** The bytes that were fed, and the TOKENS that are read of them one behind the other. */
    private static final class Tape {
        static final int LETTER_BITS = 5;
        static final int LETTER_MASK = 31;
        static final int NAME_LETTERS = 7;
        static final int NAME_SHIFT = (NAME_LETTERS - 1) * LETTER_BITS;
        static final int NUMBER_DIGITS = 3;

        final int[] bytes = new int[TAPE_BYTES];
        int length = 0;
        /** The FAULT of the latest text; nothing is read behind it, so at stays its place. */
        int fault = 0;
        int at = 0;
        int type = END;
        /** Of a NUMBER its value, of a WORD which one, of a SIGN its byte. */
        int value = 0;
        /** Of a NAME its letters, five bits each. */
        long name = 0;
        private int most = 0;
        private int next = 0;
        private final long[] words = new long[WORDS_ALL];

        Tape() {
            int word = 0;
            for (int i = 0; i < WORDS.length() && word < WORDS_ALL; i++) {
                char c = WORDS.charAt(i);
                if (c == ' ') {
                    word++;
                } else {
                    words[word] = joined(words[word], c);
                }
            }
        }

        private static long joined(long letters, int letter) {
            return (letters << LETTER_BITS) + (letter - 'a' + 1);
        }

        /** Puts four bytes behind; the caller has seen that there is room. */
        void put(int number) {
            for (int shift = 24; shift >= 0; shift -= 8) {
                if (length < TAPE_BYTES) {
                    bytes[length] = number >>> shift & 255;
                    length++;
                }
            }
        }

        void begin(int mostBytes) {
            most = mostBytes;
            next = 0;
            fault = 0;
            step();
        }

        void step() {
            if (fault != 0) {
                return;
            }
            at = next;
            while (at < length && (bytes[at] == ' ' || bytes[at] == '\n')) {
                at++;
            }
            if (length > most && at >= most) {
                at = most;
                type = NO_TOKEN;
            } else if (at >= length) {
                type = END;
            } else if (isLetter(bytes[at]) || isDigit(bytes[at])) {
                readLettersAndDigits();
            } else {
                value = bytes[at];
                type = isSignByte(value) ? SIGN : NO_TOKEN;
                next = at + 1;
            }
        }

        private void readLettersAndDigits() {
            int letters = 0;
            int digits = 0;
            name = 0;
            value = 0;
            next = at;
            while (next < length && (isLetter(bytes[next]) || isDigit(bytes[next]))) {
                if (isLetter(bytes[next])) {
                    letters++;
                    name = joined(name, bytes[next]);
                } else {
                    digits++;
                    value = value * 10 + bytes[next] - '0';
                }
                next++;
            }
            type = NO_TOKEN;
            if (letters == 0 && digits <= NUMBER_DIGITS) {
                type = NUMBER;
            } else if (digits == 0 && letters <= NAME_LETTERS) {
                tellWordFromName();
            }
        }

        private void tellWordFromName() {
            type = NAME;
            for (int word = 0; word < WORDS_ALL; word++) {
                if (words[word] == name) {
                    type = WORD;
                    value = word;
                }
            }
        }

        private static boolean isLetter(int b) {
            return b >= 'a' && b <= 'z';
        }

        private static boolean isDigit(int b) {
            return b >= '0' && b <= '9';
        }

        private static boolean isSignByte(int b) {
            return b == ';' || b == '(' || b == ')' || isComparison(b);
        }

        private static boolean isComparison(int b) {
            return b == '<' || b == '=' || b == '>';
        }

        /** A FAULT at the TOKEN that is looked at. */
        void blame(int kindOfFault) {
            if (fault == 0) {
                fault = kindOfFault;
            }
        }

        boolean isSign(int sign) {
            return type == SIGN && value == sign;
        }

        boolean isWord(int word) {
            return type == WORD && value == word;
        }

        void takeSign(int sign) {
            if (!isSign(sign)) {
                blame(NOT_HERE);
            }
            step();
        }

        int takeComparison() {
            int sign = value;
            if (type != SIGN || !isComparison(sign)) {
                blame(NOT_HERE);
            }
            step();
            return sign;
        }

        int takeNumber(int least, int greatest) {
            int number = value;
            if (type != NUMBER) {
                blame(NOT_HERE);
            } else if (number < least || number > greatest) {
                blame(NOT_IN_RANGE);
            }
            step();
            return number;
        }

        long takeNewName(City city) {
            long told = name;
            if (type != NAME) {
                blame(NOT_HERE);
            } else if (city.isTold(told)) {
                blame(NOT_SO_NAMED);
            }
            step();
            return told;
        }

        /** The one of a sort that is named here, not stepped over yet; NONE with a FAULT. */
        int lookUp(City city, int sort) {
            if (type != NAME) {
                blame(NOT_HERE);
                return NONE;
            }
            int found = city.find(sort, name);
            if (found == NONE) {
                blame(NOT_SO_NAMED);
            }
            return found;
        }

        int takeNamed(City city, int sort) {
            int found = lookUp(city, sort);
            step();
            return found;
        }
    }

    /** What a CITY's text tells, which no DAY and no act changes. */
    private static final class City {
        final long[] names = new long[SORTS * ROW];
        final int[] counts = new int[SORTS];
        int paths = 0;
        int arrears = ARREARS_UNTOLD;
        final int[] rent = new int[ROW];
        final int[] near = new int[ROW];
        final int[] bribe = new int[ROW];
        final int[] from = new int[ROW];
        final int[] to = new int[ROW];
        final int[] every = new int[ROW];
        final int[] worth = new int[ROW];
        final int[] liking = new int[ROW * KINDS_MOST];
        final int[] ways = new int[ROW * ROW];
        final int[] wayLength = new int[ROW];
        final int[] waySquares = new int[ROW];
        private final int[] layers = new int[ROW];

        /** An empty CITY; arrears and likings that are not told yet are NONE till complete(). */
        void clear() {
            fill(counts, 0);
            paths = 0;
            arrears = NONE;
            fill(near, 0);
            fill(liking, NONE);
        }

        void complete() {
            if (arrears == NONE) {
                arrears = ARREARS_UNTOLD;
            }
            for (int i = 0; i < liking.length; i++) {
                if (liking[i] == NONE) {
                    liking[i] = LIKES_UNTOLD;
                }
            }
            for (int w = 0; w < counts[WALKERS]; w++) {
                findWay(w);
            }
        }

        void copyFrom(City other) {
            System.arraycopy(other.names, 0, names, 0, SORTS * ROW);
            copy(other.counts, counts);
            paths = other.paths;
            arrears = other.arrears;
            copy(other.rent, rent);
            copy(other.near, near);
            copy(other.bribe, bribe);
            copy(other.from, from);
            copy(other.to, to);
            copy(other.every, every);
            copy(other.worth, worth);
            copy(other.liking, liking);
            copy(other.ways, ways);
            copy(other.wayLength, wayLength);
            copy(other.waySquares, waySquares);
        }

        boolean has(int sort, int i) {
            return i >= 0 && i < counts[sort];
        }

        /** The number of a new one of a sort; the caller has seen that there is room. */
        int add(int sort, long name) {
            int i = counts[sort];
            names[sort * ROW + i] = name;
            counts[sort] = i + 1;
            return i;
        }

        int find(int sort, long name) {
            for (int i = 0; i < counts[sort]; i++) {
                if (names[sort * ROW + i] == name) {
                    return i;
                }
            }
            return NONE;
        }

        boolean isTold(long name) {
            for (int sort = 0; sort < SORTS; sort++) {
                if (find(sort, name) != NONE) {
                    return true;
                }
            }
            return false;
        }

        void join(int p, int q) {
            near[p] |= 1 << q;
            near[q] |= 1 << p;
            paths++;
        }

        int walkersThrough(int q) {
            int bits = 0;
            for (int w = 0; w < counts[WALKERS]; w++) {
                if (bit(waySquares[w], q)) {
                    bits |= 1 << w;
                }
            }
            return bits;
        }

        private void findWay(int w) {
            wayLength[w] = 0;
            waySquares[w] = 0;
            int steps = layersUpTo(from[w], to[w]);
            if (steps == NONE) {
                return;
            }
            int q = from[w];
            extendWay(w, q);
            for (int left = steps - 1; left >= 0; left--) {
                // the least neighbour that is nearer is the least at the first place of difference
                int nearer = nth(near[q] & layers[left], 0);
                if (nearer == NONE) {
                    return;
                }
                q = nearer;
                extendWay(w, q);
            }
        }

        private void extendWay(int w, int q) {
            if (wayLength[w] < ROW) {
                ways[w * ROW + wayLength[w]] = q;
                wayLength[w]++;
                waySquares[w] |= 1 << q;
            }
        }

        /** Layer by layer the SQUARES so many steps from the goal; how many steps the start is. */
        private int layersUpTo(int start, int goal) {
            int reached = 1 << goal;
            layers[0] = reached;
            for (int steps = 0; steps < ROW; steps++) {
                if (bit(layers[steps], start)) {
                    return steps;
                }
                if (steps + 1 < ROW) {
                    layers[steps + 1] = besides(layers[steps]) & ~reached;
                    reached |= layers[steps + 1];
                }
            }
            return NONE;
        }

        private int besides(int squares) {
            int bits = 0;
            for (int q = 0; q < counts[SQUARES]; q++) {
                if (bit(squares, q)) {
                    bits |= near[q];
                }
            }
            return bits;
        }
    }

    /** What changes in a CITY by DAYS and acts. */
    private static final class Life {
        private final City city;
        int day = 0;
        int paid = 0;
        int evicted = 0;
        int stained = 0;
        final int[] kind = new int[ROW];
        final int[] place = new int[ROW];
        /** The STATUE at each SQUARE: the same as place, told from the other side. */
        final int[] standing = new int[ROW];
        final int[] purse = new int[ROW];
        final int[] owes = new int[ROW];
        final int[] seen = new int[ROW];
        final int[] given = new int[ROW];
        final int[] tired = new int[ROW * KINDS_MOST];
        private int seed = 0;
        private int lookedAt = 0;

        Life(City city) {
            this.city = city;
        }

        void clear() {
            day = 0;
            paid = 0;
            evicted = 0;
            stained = 0;
            fill(standing, NONE);
            fill(given, 0);
            fill(tired, 0);
        }

        void settle(int a, int k, int q, int pence) {
            kind[a] = k;
            place[a] = q;
            standing[q] = a;
            purse[a] = pence;
            owes[a] = 0;
            seen[a] = 0;
        }

        void copyFrom(Life other) {
            day = other.day;
            paid = other.paid;
            evicted = other.evicted;
            stained = other.stained;
            copy(other.kind, kind);
            copy(other.place, place);
            copy(other.standing, standing);
            copy(other.purse, purse);
            copy(other.owes, owes);
            copy(other.seen, seen);
            copy(other.given, given);
            copy(other.tired, tired);
        }

        int statues() {
            return city.counts[STATUES];
        }

        int allOf(int[] row) {
            int sum = 0;
            for (int a = 0; a < statues(); a++) {
                sum += row[a];
            }
            return sum;
        }

        int kindsTiredOf(int w) {
            int bits = 0;
            for (int k = 0; k < city.counts[KINDS]; k++) {
                if (tired[w * KINDS_MOST + k] > 0) {
                    bits |= 1 << k;
                }
            }
            return bits;
        }

        int chance(int w, int k) {
            return city.liking[w * KINDS_MOST + k] >> tired[w * KINDS_MOST + k];
        }

        int tryMove(int a, int q) {
            int left = place[a];
            if (left == NONE) {
                return 1;
            }
            if (left == q) {
                return 2;
            }
            if (standing[q] != NONE) {
                return 3;
            }
            standing[left] = NONE;
            standing[q] = a;
            place[a] = q;
            return 0;
        }

        int tryClean(int a) {
            if (bit(evicted, a)) {
                return 1;
            }
            if (!bit(stained, a)) {
                return 2;
            }
            if (purse[a] < CLEAN_PENCE) {
                return 3;
            }
            purse[a] -= CLEAN_PENCE;
            stained &= ~(1 << a);
            return 0;
        }

        int tryShow(int a, int k) {
            if (bit(evicted, a)) {
                return 1;
            }
            if (kind[a] == k) {
                return 2;
            }
            if (purse[a] < SHOW_PENCE) {
                return 3;
            }
            purse[a] -= SHOW_PENCE;
            kind[a] = k;
            return 0;
        }

        int tryLend(int a, int b, int n) {
            if (bit(evicted, a) || bit(evicted, b)) {
                return 1;
            }
            if (purse[a] < n) {
                return 2;
            }
            if (owes[b] < n) {
                return 3;
            }
            purse[a] -= n;
            owes[b] -= n;
            return 0;
        }

        /** So many DAYS, or those that are left, go by; how many did. */
        int live(int n, int firstSeed) {
            seed = firstSeed;
            int gone = Math.min(n, DAYS_ALL - day);
            for (int i = 0; i < gone; i++) {
                liveDay(city.arrears);
            }
            return gone;
        }

        /** Lives on till one of a set is evicted: the DAY on which one is; NONE: none is. */
        int liveTillEviction(int n, int firstSeed, int arrears, int set) {
            seed = firstSeed;
            int left = Math.min(n, DAYS_ALL - day);
            for (int i = 0; i < left; i++) {
                if ((liveDay(arrears) & set) != 0) {
                    return day - 1;
                }
            }
            return NONE;
        }

        /** A DAY goes by; who was evicted at its DAWN, as bits. */
        private int liveDay(int arrears) {
            int gone = evictDebtors(arrears);
            lookedAt = 0;
            for (int w = 0; w < city.counts[WALKERS]; w++) {
                // only his own looks hang on it, so he may tire ahead of EVENING
                tire(w, goesOn(w) ? walk(w) : 0);
            }
            for (int a = 0; a < statues(); a++) {
                if (!bit(evicted, a)) {
                    closeEvening(a);
                }
            }
            day++;
            return gone;
        }

        boolean goesOn(int w) {
            int every = city.every[w];
            return every > 0 && day % every == 0;
        }

        private int evictDebtors(int arrears) {
            int gone = 0;
            for (int a = 0; a < statues(); a++) {
                int q = place[a];
                if (q != NONE && owes[a] > arrears * city.rent[q]) {
                    gone |= 1 << a;
                    standing[q] = NONE;
                    place[a] = NONE;
                }
            }
            evicted |= gone;
            return gone;
        }

        /** A WALKER goes his WAY; the KINDS at which he looked, as bits. */
        private int walk(int w) {
            int kinds = 0;
            for (int i = 0; i < city.wayLength[w]; i++) {
                int a = standing[city.ways[w * ROW + i]];
                if (a != NONE && drawOfTwelve() < chance(w, kind[a])) {
                    lookAt(w, a);
                    kinds |= 1 << kind[a];
                }
            }
            return kinds;
        }

        private int drawOfTwelve() {
            seed = seed * 1103515245 + 12345;
            return (seed >>> 8) % 12;
        }

        private void lookAt(int w, int a) {
            int worth = bit(stained, a) ? city.worth[w] / 2 : city.worth[w];
            purse[a] = Math.min(PURSE_MOST, purse[a] + worth);
            seen[a]++;
            given[w]++;
            lookedAt |= 1 << a;
        }

        private void tire(int w, int kinds) {
            for (int k = 0; k < city.counts[KINDS]; k++) {
                int i = w * KINDS_MOST + k;
                tired[i] = bit(kinds, k) ? Math.min(TIRED_MOST, tired[i] + 1) : Math.max(0, tired[i] - 1);
            }
        }

        private void closeEvening(int a) {
            int q = place[a];
            if (q == NONE) {
                return;
            }
            owes[a] += city.rent[q];
            int pays = Math.min(owes[a], purse[a]);
            owes[a] -= pays;
            purse[a] -= pays;
            paid += pays;
            if (!bit(lookedAt, a)) {
                stained |= 1 << a;
            }
        }
    }

    /** A SENTENCE as steps on a stack of sets of STATUES, each step behind what it joins. */
    private static final class Sentence {
        // every ONE but the first comes with at most one word that joins it
        static final int STEPS_MOST = 2 * ONES_MOST;

        /** 0: there is no SENTENCE. */
        int steps = 0;
        final int[] words = new int[STEPS_MOST];
        /** The KIND or SQUARE of a step, or its SIGN. */
        final int[] operands = new int[STEPS_MOST];
        final int[] numbers = new int[STEPS_MOST];
        private final int[] stack = new int[ONES_MOST];

        void copyFrom(Sentence other) {
            steps = other.steps;
            copy(other.words, words);
            copy(other.operands, operands);
            copy(other.numbers, numbers);
        }

        void add(int word, int operand, int number) {
            if (steps < STEPS_MOST) {
                words[steps] = word;
                operands[steps] = operand;
                numbers[steps] = number;
                steps++;
            }
        }

        /** The STATUES of which it may be said, as bits. */
        int trueOf(City city, Life life, int allSolvent) {
            int all = (1 << city.counts[STATUES]) - 1;
            int height = 0;
            for (int i = 0; i < steps; i++) {
                int word = words[i];
                if (word == W_NOT && height > 0) {
                    stack[height - 1] = all & ~stack[height - 1];
                } else if (word == W_AND && height > 1) {
                    height--;
                    stack[height - 1] &= stack[height];
                } else if (word == W_OR && height > 1) {
                    height--;
                    stack[height - 1] |= stack[height];
                } else if (height < ONES_MOST) {
                    stack[height] = word == W_SOLVENT ? allSolvent : thoseSo(i, life, all);
                    height++;
                }
            }
            return height > 0 ? stack[0] : 0;
        }

        private int thoseSo(int i, Life life, int all) {
            if (words[i] == W_EVICTED) {
                return life.evicted;
            }
            if (words[i] == W_STAINED) {
                return life.stained;
            }
            int bits = 0;
            for (int a = 0; a < ROW; a++) {
                if (bit(all, a) && isSo(i, life, a)) {
                    bits |= 1 << a;
                }
            }
            return bits;
        }

        private boolean isSo(int i, Life life, int a) {
            switch (words[i]) {
                case W_OF:
                    return life.kind[a] == operands[i];
                case W_AT:
                    return life.place[a] == operands[i];
                case W_PURSE:
                    return compares(i, life.purse[a]);
                case W_OWES:
                    return compares(i, life.owes[a]);
                case W_GLANCES:
                    return compares(i, life.seen[a]);
                default:
                    return compares(i, a);
            }
        }

        private boolean compares(int i, int amount) {
            if (operands[i] == '<') {
                return amount < numbers[i];
            }
            if (operands[i] == '>') {
                return amount > numbers[i];
            }
            return amount == numbers[i];
        }
    }

    /** CITY, all that is so and the SENTENCE, as an image keeps them. */
    private static final class World {
        final City city = new City();
        final Life life = new Life(city);
        final Sentence sentence = new Sentence();

        void clear() {
            city.clear();
            life.clear();
            sentence.steps = 0;
        }

        void copyFrom(World other) {
            city.copyFrom(other.city);
            life.copyFrom(other.life);
            sentence.copyFrom(other.sentence);
        }
    }

    /** The lives ahead of the latest acts, in a ring. */
    private static final class Past {
        private final Life now;
        private final Life[] kept = new Life[UNDO_MOST];
        private int size = 0;
        /** Where the next one is put. */
        private int top = 0;

        Past(Life now) {
            this.now = now;
            for (int i = 0; i < UNDO_MOST; i++) {
                kept[i] = new Life(now.city);
            }
        }

        void forget() {
            size = 0;
        }

        void keep(Life before) {
            kept[top].copyFrom(before);
            top = (top + 1) % UNDO_MOST;
            size = Math.min(UNDO_MOST, size + 1);
        }

        int takeBack() {
            if (size == 0) {
                return NONE;
            }
            top = (top + UNDO_MOST - 1) % UNDO_MOST;
            size--;
            now.copyFrom(kept[top]);
            return size;
        }
    }

    /** Reads a CITY into a draft, so that a FAULT leaves the one that stands. */
    private static final class CityReader {
        private final Tape tape;
        final World draft = new World();
        private final City city = draft.city;

        CityReader(Tape tape) {
            this.tape = tape;
        }

        /** How many LINES; of no account with a FAULT. */
        int readCity() {
            draft.clear();
            tape.begin(CITY_BYTES);
            int lines = 0;
            while (lines < CITY_BYTES && tape.fault == 0 && tape.type != END) {
                readLine();
                tape.takeSign(';');
                lines++;
            }
            city.complete();
            return lines;
        }

        private void readLine() {
            switch (tape.type == WORD ? tape.value : NONE) {
                case W_SQUARE:
                    readSquare();
                    break;
                case W_PATH:
                    readPath();
                    break;
                case W_KIND:
                    readKind();
                    break;
                case W_STATUE:
                    readStatue();
                    break;
                case W_WALKER:
                    readWalker();
                    break;
                case W_LIKES:
                    readLikes();
                    break;
                case W_ARREARS:
                    readArrears();
                    break;
                default:
                    tape.blame(NOT_HERE);
            }
        }

        /** Steps over a LINE's first WORD, if there may be one more of its sort. */
        private void beginOneOf(int sort) {
            if (city.counts[sort] >= MOST[sort]) {
                tape.blame(TOO_MANY);
            }
            tape.step();
        }

        private void readSquare() {
            beginOneOf(SQUARES);
            long name = tape.takeNewName(city);
            int rent = tape.takeNumber(0, 99);
            if (tape.fault == 0) {
                city.rent[city.add(SQUARES, name)] = rent;
            }
        }

        private void readPath() {
            if (city.paths >= PATHS_MOST) {
                tape.blame(TOO_MANY);
            }
            tape.step();
            int p = tape.takeNamed(city, SQUARES);
            int q = tape.lookUp(city, SQUARES);
            if (tape.fault != 0) {
                return;
            }
            if (p == q || bit(city.near[p], q)) {
                tape.blame(NOT_SO_NAMED);
                return;
            }
            city.join(p, q);
            tape.step();
        }

        private void readKind() {
            beginOneOf(KINDS);
            long name = tape.takeNewName(city);
            if (tape.fault == 0) {
                city.add(KINDS, name);
            }
        }

        private void readStatue() {
            beginOneOf(STATUES);
            long name = tape.takeNewName(city);
            int kind = tape.takeNamed(city, KINDS);
            int q = tape.lookUp(city, SQUARES);
            if (q != NONE && draft.life.standing[q] != NONE) {
                tape.blame(NOT_SO_NAMED);
            }
            tape.step();
            int purse = tape.takeNumber(0, PURSE_MOST);
            int bribe = tape.takeNumber(0, 99);
            if (tape.fault != 0) {
                return;
            }
            int a = city.add(STATUES, name);
            city.bribe[a] = bribe;
            draft.life.settle(a, kind, q, purse);
        }

        private void readWalker() {
            beginOneOf(WALKERS);
            long name = tape.takeNewName(city);
            int from = tape.takeNamed(city, SQUARES);
            int to = tape.takeNamed(city, SQUARES);
            int every = tape.takeNumber(1, 7);
            int worth = tape.takeNumber(0, 9);
            if (tape.fault != 0) {
                return;
            }
            int w = city.add(WALKERS, name);
            city.from[w] = from;
            city.to[w] = to;
            city.every[w] = every;
            city.worth[w] = worth;
        }

        private void readLikes() {
            tape.step();
            int w = tape.takeNamed(city, WALKERS);
            int k = tape.lookUp(city, KINDS);
            if (tape.fault != 0) {
                return;
            }
            int i = w * KINDS_MOST + k;
            if (city.liking[i] != NONE) {
                tape.blame(NOT_SO_NAMED);
                return;
            }
            tape.step();
            city.liking[i] = tape.takeNumber(0, LIKES_MOST);
        }

        private void readArrears() {
            if (city.arrears != NONE) {
                tape.blame(NOT_SO_NAMED);
            }
            tape.step();
            int arrears = tape.takeNumber(1, ARREARS_MOST);
            if (tape.fault == 0) {
                city.arrears = arrears;
            }
        }
    }

    /** Reads a LOG and lives through its LINES. */
    private static final class LogReader {
        static final int WHY_CLEANING = 10;
        static final int WHY_SHOWING = 20;
        static final int WHY_LENDING = 30;
        static final int TO_ITSELF = 39;
        static final int FEWER_DAYS = 41;

        private final Tape tape;
        private final City city;
        private int lines = 0;
        private final int[] verbs = new int[LINES_MOST];
        private final int[] statues = new int[LINES_MOST];
        /** The SQUARE, KIND or other STATUE of a LINE. */
        private final int[] objects = new int[LINES_MOST];
        private final int[] numbers = new int[LINES_MOST];
        /** Whether a LOG without a FAULT was ever judged. */
        boolean judged = false;
        int whyWrong = 0;
        int linesDone = 0;
        int dayThen = 0;
        int evictedThen = 0;

        LogReader(Tape tape, City city) {
            this.tape = tape;
            this.city = city;
        }

        void readLog() {
            lines = 0;
            tape.begin(LOG_BYTES);
            while (lines <= LINES_MOST && tape.fault == 0 && tape.type != END) {
                readLine();
                tape.takeSign(';');
                lines++;
            }
        }

        private void readLine() {
            boolean isDay = tape.isWord(W_DAY);
            int a = isDay ? NONE : tape.lookUp(city, STATUES);
            if (lines >= LINES_MOST) {
                tape.blame(TOO_MANY);
            }
            if (tape.fault != 0) {
                return;
            }
            tape.step();
            statues[lines] = a;
            if (isDay) {
                verbs[lines] = W_DAY;
                numbers[lines] = tape.takeNumber(1, DAYS_MOST);
            } else {
                readDeed();
            }
        }

        private void readDeed() {
            int verb = tape.type == WORD ? tape.value : NONE;
            if (verb < W_MOVES || verb > W_LENDS) {
                tape.blame(NOT_HERE);
                return;
            }
            verbs[lines] = verb;
            tape.step();
            if (verb == W_MOVES) {
                objects[lines] = tape.takeNamed(city, SQUARES);
            } else if (verb == W_SHOWS) {
                objects[lines] = tape.takeNamed(city, KINDS);
            } else if (verb == W_LENDS) {
                objects[lines] = tape.takeNamed(city, STATUES);
                numbers[lines] = tape.takeNumber(1, LEND_MOST);
            }
        }

        /** The LINE that is WRONG; NONE: none. */
        int liveThrough(Life life) {
            int why = 0;
            int done = 0;
            while (done < lines && why == 0) {
                why = liveLine(life, done);
                if (why == 0) {
                    done++;
                }
            }
            judged = true;
            whyWrong = why;
            linesDone = done;
            dayThen = life.day;
            evictedThen = life.evicted;
            return why == 0 ? NONE : done;
        }

        /** 0, or why it is WRONG. */
        private int liveLine(Life life, int i) {
            int a = statues[i];
            switch (verbs[i]) {
                case W_MOVES:
                    return life.tryMove(a, objects[i]);
                case W_CLEANS:
                    return raised(life.tryClean(a), WHY_CLEANING);
                case W_SHOWS:
                    return raised(life.tryShow(a, objects[i]), WHY_SHOWING);
                case W_LENDS:
                    if (a == objects[i]) {
                        return TO_ITSELF;
                    }
                    return raised(life.tryLend(a, objects[i], numbers[i]), WHY_LENDING);
                default:
                    if (DAYS_ALL - life.day < numbers[i]) {
                        return FEWER_DAYS;
                    }
                    life.live(numbers[i], numbers[i]);
                    return 0;
            }
        }

        private static int raised(int why, int by) {
            return why == 0 ? 0 : why + by;
        }
    }

    /** Reads a SENTENCE into a draft, so that a FAULT leaves the one that stands. */
    private static final class SentenceReader {
        private final Tape tape;
        private final City city;
        final Sentence draft = new Sentence();
        private int ones = 0;

        SentenceReader(Tape tape, City city) {
            this.tape = tape;
            this.city = city;
        }

        /** How many ONES; of no account with a FAULT. */
        int readSentence() {
            draft.steps = 0;
            ones = 0;
            tape.begin(SENTENCE_BYTES);
            readCond(1);
            if (tape.type != END) {
                tape.blame(NOT_HERE);
            }
            return ones;
        }

        /** The ONES of it are the so-manieth within one another. */
        private void readCond(int within) {
            readAll(within);
            for (int i = 0; i < ONES_MOST && tape.fault == 0 && tape.isWord(W_OR); i++) {
                tape.step();
                readAll(within);
                draft.add(W_OR, 0, 0);
            }
        }

        private void readAll(int within) {
            readOne(within);
            for (int i = 0; i < ONES_MOST && tape.fault == 0 && tape.isWord(W_AND); i++) {
                tape.step();
                readOne(within);
                draft.add(W_AND, 0, 0);
            }
        }

        private void readOne(int within) {
            if (!beginsOne()) {
                tape.blame(NOT_HERE);
            } else if (ones >= ONES_MOST || within > WITHIN_MOST) {
                tape.blame(TOO_MANY);
            }
            if (tape.fault != 0) {
                return;
            }
            ones++;
            if (tape.isSign('(')) {
                tape.step();
                readCond(within + 1);
                tape.takeSign(')');
            } else if (tape.isWord(W_NOT)) {
                tape.step();
                readOne(within + 1);
                draft.add(W_NOT, 0, 0);
            } else {
                readPlainOne(tape.value);
            }
        }

        private boolean beginsOne() {
            return tape.isSign('(') || tape.type == WORD && tape.value >= W_NOT && tape.value <= W_NUMBER;
        }

        private void readPlainOne(int word) {
            tape.step();
            if (word == W_OF) {
                draft.add(word, tape.takeNamed(city, KINDS), 0);
            } else if (word == W_AT) {
                draft.add(word, tape.takeNamed(city, SQUARES), 0);
            } else if (word >= W_PURSE) {
                int sign = tape.takeComparison();
                draft.add(word, sign, tape.takeNumber(0, 999));
            } else {
                draft.add(word, 0, 0);
            }
        }
    }

    /** What is reckoned in pence: YIELDS, who is SOLVENT, PLACING, CURE and PLOT. */
    private static final class Reckoning {
        // 420 is the least that all of 1 to 7 divide, so that every YIELD is whole in such parts
        static final int EVERY_PARTS = 420;
        static final int PARTS = LIKES_MOST * EVERY_PARTS;

        private final City city;
        private final Life life;
        final int[] placedAt = new int[ROW];
        private final int[] toPlace = new int[ROW];
        private final int[] gains = new int[ROW * ROW];
        private final int[] best = new int[1 << ROW];
        int curedCleaned = NONE;
        int curedKind = NONE;
        int curedSquare = NONE;
        int plotting = NONE;

        Reckoning(City city, Life life) {
            this.city = city;
            this.life = life;
        }

        private int worthOf(int w, boolean stained) {
            return stained ? city.worth[w] / 2 : city.worth[w];
        }

        /** YIELD at a SQUARE as of a KIND in PARTS, without some WALKERS (bits). */
        int yieldOf(int q, int k, boolean stained, int without) {
            int sum = 0;
            for (int w = 0; w < city.counts[WALKERS]; w++) {
                int every = city.every[w];
                if (bit(city.waySquares[w], q) && !bit(without, w) && every > 0) {
                    sum += worthOf(w, stained) * city.liking[w * KINDS_MOST + k] * (EVERY_PARTS / every);
                }
            }
            return sum;
        }

        private boolean isSolventAs(int q, int k, boolean stained, int without) {
            return yieldOf(q, k, stained, without) >= city.rent[q] * PARTS;
        }

        private boolean isSolvent(int a, int without) {
            int q = life.place[a];
            return q != NONE && isSolventAs(q, life.kind[a], bit(life.stained, a), without);
        }

        int allSolvent() {
            int bits = 0;
            for (int a = 0; a < city.counts[STATUES]; a++) {
                if (isSolvent(a, 0)) {
                    bits |= 1 << a;
                }
            }
            return bits;
        }

        /** In twelfths of a penny. */
        int earnedToday(int a) {
            int q = life.place[a];
            int sum = 0;
            for (int w = 0; w < city.counts[WALKERS] && q != NONE; w++) {
                if (bit(city.waySquares[w], q) && life.goesOn(w)) {
                    sum += worthOf(w, bit(life.stained, a)) * life.chance(w, life.kind[a]);
                }
            }
            return sum;
        }

        /** PLACING: all in PARTS; where each STATUE comes stands in placedAt. */
        int placeAll() {
            int squares = city.counts[SQUARES];
            int placing = reckonGains();
            for (int taken = (1 << squares) - 1; taken >= 0; taken--) {
                int i = Integer.bitCount(taken);
                best[taken] = 0;
                if (i < placing) {
                    int q = bestSquare(i, taken);
                    best[taken] = q == NONE ? 0 : gainWith(i, q, taken);
                }
            }
            int taken = 0;
            for (int i = 0; i < placing; i++) {
                int q = bestSquare(i, taken);
                placedAt[toPlace[i]] = q;
                taken |= q == NONE ? 0 : 1 << q;
            }
            return best[0];
        }

        /** What each STATUE that is not evicted gains at each SQUARE; how many such there are. */
        private int reckonGains() {
            int placing = 0;
            for (int a = 0; a < city.counts[STATUES]; a++) {
                if (!bit(life.evicted, a)) {
                    toPlace[placing] = a;
                    for (int q = 0; q < city.counts[SQUARES]; q++) {
                        int earned = yieldOf(q, life.kind[a], bit(life.stained, a), 0);
                        gains[placing * ROW + q] = earned - city.rent[q] * PARTS;
                    }
                    placing++;
                }
            }
            return placing;
        }

        /** With some SQUARES taken, the i-th one's least SQUARE by which it and all behind it gain most. */
        private int bestSquare(int i, int taken) {
            int found = NONE;
            for (int q = 0; q < city.counts[SQUARES]; q++) {
                if (!bit(taken, q) && (found == NONE || gainWith(i, q, taken) > gainWith(i, found, taken))) {
                    found = q;
                }
            }
            return found;
        }

        private int gainWith(int i, int q, int taken) {
            return gains[i * ROW + q] + best[taken | 1 << q];
        }

        /** The pence of the CURE of one that stands; NONE: there is none. */
        int findCure(int a) {
            int least = NONE;
            for (int k = 0; k < city.counts[KINDS]; k++) {
                for (int q = 0; q < city.counts[SQUARES]; q++) {
                    if (life.standing[q] == NONE || life.standing[q] == a) {
                        least = tryCure(a, k, q, false, least);
                        if (bit(life.stained, a)) {
                            least = tryCure(a, k, q, true, least);
                        }
                    }
                }
            }
            return least;
        }

        /** The least pence so far, with this CURE, too. */
        private int tryCure(int a, int k, int q, boolean cleaned, int least) {
            int pence = cleaned ? CLEAN_PENCE : 0;
            pence += k == life.kind[a] ? 0 : SHOW_PENCE;
            pence += q == life.place[a] ? 0 : MOVE_PENCE;
            boolean stained = bit(life.stained, a) && !cleaned;
            if (least != NONE && pence >= least || !isSolventAs(q, k, stained, 0)) {
                return least;
            }
            curedCleaned = cleaned ? 1 : 0;
            curedKind = k;
            curedSquare = q;
            return pence;
        }

        /** How many WALKERS plot against one that stands; NONE: all of them are too few. */
        int findPlot(int a) {
            int fewest = NONE;
            for (int set = 0; set < 1 << city.counts[WALKERS]; set++) {
                int many = Integer.bitCount(set);
                if ((fewest == NONE || many < fewest) && !isSolvent(a, set)) {
                    fewest = many;
                    plotting = set;
                }
            }
            return fewest;
        }
    }

    /** ROUTES of a guide, and what is bid for them. */
    private static final class Guide {
        private final City city;
        private final Life life;
        private final int[] bribes = new int[ROW];
        private int most = 0;
        private final int[] trail = new int[ROW];
        private final int[] best = new int[ROW];
        private int bestLength = 0;
        private int bestSum = 0;
        private int bestSquares = 0;
        final int[] told = new int[ROW];
        int toldLength = 0;
        final int[] bidden = new int[ROW];
        int bidders = 0;

        Guide(City city, Life life) {
            this.city = city;
            this.life = life;
        }

        int tellRoute(int q, int n) {
            copy(city.bribe, bribes);
            seek(q, n);
            copy(best, told);
            toldLength = bestLength;
            return bestSum;
        }

        private void seek(int q, int n) {
            most = n;
            bestLength = 0;
            bestSum = NONE;
            goOn(q, 0, 0, 0);
        }

        /**
         * Tries all trails by one SQUARE more. The least SQUARES come first, so that of trails as long and as
         * dear the first that is found is the one to keep.
         */
        private void goOn(int q, int length, int sum, int squares) {
            if (length >= most || length >= ROW) {
                return;
            }
            trail[length] = q;
            int a = life.standing[q];
            int newSum = a == NONE ? sum : sum + bribes[a];
            int newSquares = squares | 1 << q;
            int newLength = length + 1;
            if (newSum > bestSum || newSum == bestSum && newLength < bestLength) {
                copy(trail, best);
                bestLength = newLength;
                bestSum = newSum;
                bestSquares = newSquares;
            }
            for (int p = 0; p < city.counts[SQUARES]; p++) {
                if (bit(city.near[q], p) && !bit(newSquares, p)) {
                    goOn(p, newLength, newSum, newSquares);
                }
            }
        }

        int takeBids(int q, int n) {
            copy(city.bribe, bribes);
            int rounds = 0;
            boolean rest = false;
            while (rounds < ROUNDS_MOST && !rest) {
                rounds++;
                seek(q, n);
                int a = nextBidder();
                if (a == NONE) {
                    rest = true;
                } else {
                    bribes[a]++;
                }
            }
            copy(bribes, bidden);
            bidders = city.counts[STATUES];
            return rounds;
        }

        private int nextBidder() {
            for (int a = 0; a < city.counts[STATUES]; a++) {
                int q = life.place[a];
                if (q != NONE && !bit(bestSquares, q) && life.purse[a] > bribes[a]) {
                    return a;
                }
            }
            return NONE;
        }
    }

    /** What the tape lets one guess: TASTE and GRASS. */
    private static final class Guesses {
        private final Tape tape;
        private final City city;
        private final Life life;
        int sureKinds = NONE;
        int telling = NONE;
        int sureWalkers = NONE;
        /** How many of the sets have each KIND. */
        private final int[] setsWith = new int[KINDS_MOST];

        Guesses(Tape tape, City city, Life life) {
            this.tape = tape;
            this.city = city;
            this.life = life;
        }

        /** How many sets of KINDS; NONE: the tape is not as told. */
        int guessTaste() {
            if (!arePairs()) {
                return NONE;
            }
            int looked = kindsOfPairs(1);
            int notLooked = kindsOfPairs(0);
            int all = (1 << city.counts[KINDS]) - 1;
            int sets = 0;
            int common = all;
            fill(setsWith, 0);
            for (int set = 0; set <= all; set++) {
                if ((set & looked) == looked && (set & notLooked) == 0) {
                    sets++;
                    common &= set;
                    countKinds(set);
                }
            }
            if (sets > 0) {
                sureKinds = common;
                telling = bestTeller(sets);
            }
            return sets;
        }

        private boolean arePairs() {
            if (tape.length < 2 || tape.length > 2 * PAIRS_MOST || tape.length % 2 != 0) {
                return false;
            }
            for (int i = 0; i + 1 < tape.length; i += 2) {
                if (!city.has(STATUES, tape.bytes[i]) || tape.bytes[i + 1] > 1) {
                    return false;
                }
            }
            return true;
        }

        private int kindsOfPairs(int looked) {
            int kinds = 0;
            for (int i = 0; i + 1 < tape.length; i += 2) {
                int a = tape.bytes[i];
                if (tape.bytes[i + 1] == looked && city.has(STATUES, a)) {
                    kinds |= 1 << life.kind[a];
                }
            }
            return kinds;
        }

        private void countKinds(int set) {
            for (int k = 0; k < KINDS_MOST; k++) {
                if (bit(set, k)) {
                    setsWith[k]++;
                }
            }
        }

        private int bestTeller(int sets) {
            int found = NONE;
            int leastApart = 0;
            for (int a = 0; a < city.counts[STATUES]; a++) {
                int apart = Math.abs(2 * setsWith[life.kind[a]] - sets);
                if (!bit(life.evicted, a) && (found == NONE || apart < leastApart)) {
                    found = a;
                    leastApart = apart;
                }
            }
            return found;
        }

        /** How many sets of WALKERS; NONE: the tape is not as told. */
        int guessGrass() {
            if (tape.length < 1 || tape.length != city.counts[SQUARES]) {
                return NONE;
            }
            int all = (1 << city.counts[WALKERS]) - 1;
            int sets = 0;
            int common = all;
            for (int set = 0; set <= all; set++) {
                if (treads(set)) {
                    sets++;
                    common &= set;
                }
            }
            if (sets > 0) {
                sureWalkers = common;
            }
            return sets;
        }

        private boolean treads(int set) {
            for (int q = 0; q < city.counts[SQUARES]; q++) {
                if (Integer.bitCount(set & city.walkersThrough(q)) != tape.bytes[q]) {
                    return false;
                }
            }
            return true;
        }
    }
}
