import java.util.Arrays;

/** A house that tells what a few gauges can tell; DOC.md says what each call answers. */
public final class GaugeNet {
    public static final int NONE = -1;

    private static final int NO_ONE = -2;
    private static final int NO_NUMBER = -10000;
    private static final long NO_WEIGHT = -1000000000000L;
    private static final long NO_NOUGHT = -1000000000000000L;

    private static final int MOST_BYTES = 2000;
    private static final int MOST_TOKENS = 400;
    private static final int MOST_LETTERS = 8;
    private static final int MOST_DIGITS = 4;
    private static final int MOST_UNKNOWNS = 7;
    private static final int MOST_EQS = 8;
    private static final int MOST_GAUGES = 6;
    private static final int MOST_FAULTS = 8;
    private static final int MOST_NAMES = MOST_UNKNOWNS + MOST_EQS + MOST_GAUGES + MOST_FAULTS;
    private static final int ROWS = MOST_EQS + MOST_GAUGES;
    private static final int ROW_SETS = 1 << ROWS;
    private static final int UNKNOWN_SETS = 1 << MOST_UNKNOWNS;
    private static final int GAUGE_SETS = 1 << MOST_GAUGES;
    private static final int FAULT_SETS = 1 << MOST_FAULTS;
    private static final int POSITIONS = 4;
    private static final int ALL_POSITIONS = (1 << POSITIONS) - 1;

    /** A TEST has one ROW more than UNKNOWNS. */
    private static final int MOST_TEST_ROWS = MOST_UNKNOWNS + 1;
    /** No TEST has all ROWS of another one, so by Sperner there are no more of 14 ROWS than sets of 7: 14! / (7! 7!). */
    private static final int MOST_TESTS = 3432;

    private static final int MOST_NUMBER = 9;
    private static final int MOST_CONSTANT = 999;
    private static final int MOST_NOISE = 3;
    private static final int MOST_COST = 100;
    private static final int MOST_READING = 9999;
    private static final int MOST_SIZE = 9999;
    private static final int MOST_JUDGED = 200;
    private static final int MOST_BLAMED = 3;

    private static final int LITTLE = 0;
    private static final int JUST = 1;
    private static final int MORE = 2;

    private static final int SYNTAX = 1;
    private static final int ROOM = 2;
    private static final int TWICE = 3;
    private static final int NAME = 4;
    private static final int WRONG = 5;

    private static final int T_END = 0;
    private static final int T_OTHER = 1;
    private static final int T_NAME = 2;
    private static final int T_INT = 3;
    private static final int T_UNKNOWN = 4;
    private static final int T_EQ = 5;
    private static final int T_IN = 6;
    private static final int T_GAUGE = 7;
    private static final int T_MAYBE = 8;
    private static final int T_OF = 9;
    private static final int T_NOISE = 10;
    private static final int T_COST = 11;
    private static final int T_FAULT = 12;
    private static final int T_SEMICOLON = 13;
    private static final int T_COLON = 14;
    private static final int T_COMMA = 15;
    private static final int T_PLUS = 16;
    private static final int T_MINUS = 17;

    private final byte[] tape = new byte[MOST_BYTES];
    private int tapeLength = 0;
    private int faultPlace = NONE;
    private final Parser parser = new Parser();
    private Works works = new Works();
    /** Whether pairs and allTests are those of works: they are made only when first asked for. */
    private boolean ready = false;
    private final Pairs pairs = new Pairs();
    private final Tests allTests = new Tests();
    private final Telling telling = new Telling();
    private final Routine routine = new Routine();
    private final Noises noises = new Noises();
    private final Blame blame = new Blame();

    public GaugeNet() {
    }

    public int feed(int a, int b, int c, int d, int e) {
        if (tapeLength + 20 > tape.length) {
            return NONE;
        }
        putBytes(a);
        putBytes(b);
        putBytes(c);
        putBytes(d);
        putBytes(e);
        return tapeLength;
    }

    private void putBytes(int four) {
        for (int shift = 24; shift >= 0; shift -= 8) {
            if (tapeLength >= 0 && tapeLength < tape.length) {
                tape[tapeLength] = (byte) (four >> shift);
                tapeLength++;
            }
        }
    }

    public int back(int n) {
        if (n < 0 || n > tapeLength) {
            return NONE;
        }
        tapeLength -= n;
        return tapeLength;
    }

    public int read() {
        int fault = parser.parse(tape, tapeLength);
        faultPlace = parser.place;
        tapeLength = 0;
        if (fault == 0) {
            works = parser.exchange(works);
            ready = false;
        }
        return fault;
    }

    public int place() {
        return faultPlace;
    }

    public boolean position(int p) {
        if (p < 0 || p >= POSITIONS) {
            return false;
        }
        works.position = p;
        return true;
    }

    public boolean in(int gauge, boolean is) {
        if (!works.isGauge(gauge)) {
            return false;
        }
        works.inBits = withBit(works.inBits, gauge, is);
        return true;
    }

    public boolean dead(int gauge, boolean is) {
        if (!works.isGauge(gauge)) {
            return false;
        }
        works.deadBits = withBit(works.deadBits, gauge, is);
        return true;
    }

    public boolean reading(int gauge, int v) {
        if (!works.isGauge(gauge) || v < -MOST_READING || v > MOST_READING) {
            return false;
        }
        works.readings[gauge] = v;
        return true;
    }

    public int number(int eq, int unknown) {
        if (!works.isEq(eq)) {
            return NO_NUMBER;
        }
        if (unknown == NONE) {
            return works.constants[eq];
        }
        return works.isUnknown(unknown) ? works.numberIn(eq, unknown) : NO_NUMBER;
    }

    public int net() {
        return works.netNow();
    }

    public int pairs() {
        makeReady();
        return pairs.of(works.netNow());
    }

    public int row(int row) {
        int net = works.netNow();
        if (!hasBit(net, row)) {
            return NONE;
        }
        makeReady();
        if (pairs.isMore(net, row)) {
            return MORE;
        }
        return (works.hasOf(row) & pairs.leftOut(works, net)) != 0 ? LITTLE : JUST;
    }

    public int unknown(int k) {
        if (!works.isUnknown(k)) {
            return NONE;
        }
        makeReady();
        int net = works.netNow();
        for (int row = 0; row < ROWS; row++) {
            if (hasBit(works.hasOf(row), k) && pairs.isMore(net, row)) {
                return MORE;
            }
        }
        return hasBit(pairs.leftOut(works, net), k) ? LITTLE : JUST;
    }

    public int tests() {
        makeReady();
        return allTests.countIn(works.netNow());
    }

    public int test(int k) {
        return allTests.rowsOf(testAt(k));
    }

    public int parts(int fault, int other) {
        if (!works.isFault(fault) || !works.isFault(other)) {
            return NONE;
        }
        makeReady();
        int row = works.rowOf(fault);
        int otherRow = works.rowOf(other);
        int net = works.netNow();
        int k = 0;
        for (int t = 0; t < allTests.count; t++) {
            if (allTests.isIn(t, net)) {
                if (allTests.hasRow(t, row) && !allTests.hasRow(t, otherRow)) {
                    return k;
                }
                k++;
            }
        }
        return NO_ONE;
    }

    public int seen(int fault) {
        if (!works.isFault(fault)) {
            return NONE;
        }
        makeReady();
        return pairs.isMore(works.netNow(), works.rowOf(fault)) ? 1 : 0;
    }

    public int parted(int fault, int other) {
        if (!works.isFault(fault) || !works.isFault(other) || fault == other) {
            return NONE;
        }
        makeReady();
        return pairs.isParted(works.netNow(), works.rowOf(fault), works.rowOf(other)) ? 1 : 0;
    }

    public int told(int positions) {
        if (positions < 1 || positions > ALL_POSITIONS) {
            return NONE;
        }
        makeReady();
        return telling.isToldBy(works, pairs, positions) ? 1 : 0;
    }

    public int adding(boolean spare) {
        makeReady();
        return telling.cheapestAdded(works, pairs, spare);
    }

    public int taking() {
        makeReady();
        return telling.dearestTaken(works, pairs);
    }

    public int positions() {
        makeReady();
        return telling.fewestPositions(works, pairs);
    }

    public int cost(int gauges) {
        return gauges < 0 || gauges >= (1 << works.gauges) ? NONE : works.costOf(gauges);
    }

    public int uses(int test, int without) {
        return runRoutine(test, without) ? routine.count : NONE;
    }

    public int use(int test, int without, int i) {
        return runRoutine(test, without) ? routine.rowAt(i) : NONE;
    }

    public int ring(int test, int without) {
        return runRoutine(test, without) ? routine.left : NONE;
    }

    private boolean runRoutine(int test, int without) {
        int t = testAt(test);
        if (t == NONE || !allTests.hasRow(t, without)) {
            return false;
        }
        routine.run(works, allTests.rowsOf(t) & ~(1 << without));
        return true;
    }

    public int runs(int test) {
        makeWeighed();
        int t = testAt(test);
        if (t == NONE) {
            return NONE;
        }
        return allTests.canRun(t) ? 1 : 0;
    }

    public long weight(int test, int row) {
        int t = runningTestAt(test);
        return allTests.hasRow(t, row) ? allTests.weightOf(t, row) : NO_WEIGHT;
    }

    public long nought(int test) {
        int t = runningTestAt(test);
        return t == NONE ? NO_NOUGHT : allTests.noughtOf(works, t);
    }

    public long bound(int test) {
        int t = runningTestAt(test);
        return t == NONE ? -1 : allTests.boundOf(works, t);
    }

    public int rings(int test) {
        int t = runningTestAt(test);
        if (t == NONE) {
            return NONE;
        }
        return allTests.isRinging(works, t) ? 1 : 0;
    }

    public long from(int test, int fault) {
        int t = runningTestAt(test);
        if (t == NONE || !works.isFault(fault)) {
            return -1;
        }
        long weight = Math.abs(allTests.weightOf(t, works.rowOf(fault)));
        return weight == 0 ? NO_ONE : 2 * allTests.boundOf(works, t) / weight + 1;
    }

    public int odds(int test, int fault, int s, long mark) {
        int t = runningTestAt(test);
        boolean such = fault == NONE || works.isFault(fault);
        if (t == NONE || !such || s < -MOST_SIZE || s > MOST_SIZE || mark < -1) {
            return NONE;
        }
        long added = fault == NONE ? 0 : allTests.weightOf(t, works.rowOf(fault)) * s;
        return noises.countAbove(works, allTests, t, added, mark);
    }

    public int sets(boolean strict) {
        hearRings();
        return blame.countSets(strict);
    }

    public int set(boolean strict, int i) {
        hearRings();
        return blame.setAt(strict, i);
    }

    public int look() {
        hearRings();
        return blame.bestLook();
    }

    private void hearRings() {
        makeWeighed();
        blame.hear(works, allTests);
    }

    public int hide(int fault, int other) {
        if (!works.isFault(fault) || !works.isFault(other) || fault == other) {
            return NONE;
        }
        makeWeighed();
        return blame.isHiding(works, allTests, works.rowOf(fault), works.rowOf(other)) ? 1 : 0;
    }

    public int still(int row) {
        if (!works.isRow(row)) {
            return NONE;
        }
        makeReady();
        return allTests.countIn(works.netNow() & ~(1 << row));
    }

    public int judged(int fault, int s, int what) {
        if (!works.isFault(fault) || s < 1 || s > MOST_JUDGED || what < 0 || what > 2) {
            return NONE;
        }
        makeWeighed();
        return blame.countJudged(works, allTests, fault, s, what);
    }

    public int mistaken(int fault, int size) {
        if (!works.isFault(fault) || size < 1 || size > MOST_SIZE) {
            return NONE;
        }
        makeWeighed();
        int blamed = blame.firstBlamed(works, allTests, fault, size);
        return blamed == NONE || blamed == fault ? 0 : 1 << blamed;
    }

    public int count(int what) {
        switch (what) {
            case 0:
                return works.unknowns;
            case 1:
                return works.eqs;
            case 2:
                return works.gauges;
            case 3:
                return works.faults;
            case 4:
                return works.position;
            case 5:
                return works.inBits;
            case 6:
                return works.deadBits;
            case 7:
                return tapeLength;
            default:
                return what >= 10 && what < 10 + works.faults ? works.rowOf(what - 10) : NONE;
        }
    }

    private void makeReady() {
        if (!ready) {
            pairs.countAll(works);
            allTests.gather(works, pairs);
            ready = true;
        }
    }

    private void makeWeighed() {
        makeReady();
        allTests.weigh(works, works.netNow());
    }

    /** The k-th TEST of THE NET, by its number among all TESTS. */
    private int testAt(int k) {
        makeReady();
        return allTests.find(k, works.netNow());
    }

    private int runningTestAt(int k) {
        makeWeighed();
        int t = allTests.find(k, works.netNow());
        return allTests.canRun(t) ? t : NONE;
    }

    private static boolean hasBit(int bits, int bit) {
        return bit >= 0 && bit < 31 && ((bits >> bit) & 1) != 0;
    }

    private static int withBit(int bits, int bit, boolean is) {
        return is ? bits | (1 << bit) : bits & ~(1 << bit);
    }

    private static long divisorOfBoth(long a, long b) {
        long greater = Math.abs(a);
        long less = Math.abs(b);
        // Euclid's steps on two longs stay below a hundred.
        for (int step = 0; step < 200 && less != 0; step++) {
            long rest = greater % less;
            greater = less;
            less = rest;
        }
        return greater;
    }

    /** What the text in place tells, and what calls have changed since. */
    private static final class Works {
        int unknowns = 0;
        int eqs = 0;
        int gauges = 0;
        int faults = 0;
        int position = 0;
        int inBits = 0;
        int deadBits = 0;
        /** By ROW, then by UNKNOWN. */
        final int[] numbers = new int[ROWS * MOST_UNKNOWNS];
        final int[] constants = new int[MOST_EQS];
        /** The POSITIONS (bits) in which an EQ holds. */
        final int[] holds = new int[MOST_EQS];
        final int[] noiseOfGauge = new int[MOST_GAUGES];
        final int[] costOfGauge = new int[MOST_GAUGES];
        final int[] readings = new int[MOST_GAUGES];
        final int[] rowOfFault = new int[MOST_FAULTS];
        /** The UNKNOWNS (bits) that a ROW HAS. */
        final int[] has = new int[ROWS];

        void clear() {
            unknowns = 0;
            eqs = 0;
            gauges = 0;
            faults = 0;
            position = 0;
            inBits = 0;
            deadBits = 0;
            Arrays.fill(numbers, 0);
            Arrays.fill(constants, 0);
            Arrays.fill(holds, 0);
            Arrays.fill(noiseOfGauge, 0);
            Arrays.fill(costOfGauge, 1);
            Arrays.fill(readings, 0);
            Arrays.fill(rowOfFault, 0);
            Arrays.fill(has, 0);
        }

        boolean isUnknown(int k) {
            return k >= 0 && k < unknowns && k < MOST_UNKNOWNS;
        }

        boolean isEq(int k) {
            return k >= 0 && k < eqs && k < MOST_EQS;
        }

        boolean isGauge(int g) {
            return g >= 0 && g < gauges && g < MOST_GAUGES;
        }

        boolean isFault(int f) {
            return f >= 0 && f < faults && f < MOST_FAULTS;
        }

        boolean isRow(int row) {
            return isEq(row) || (row >= MOST_EQS && isGauge(row - MOST_EQS));
        }

        int rowOf(int fault) {
            return isFault(fault) ? rowOfFault[fault] : NONE;
        }

        int hasOf(int row) {
            return row >= 0 && row < has.length ? has[row] : 0;
        }

        int numberIn(int row, int unknown) {
            boolean such = row >= 0 && row < ROWS && unknown >= 0 && unknown < MOST_UNKNOWNS;
            return such ? numbers[row * MOST_UNKNOWNS + unknown] : 0;
        }

        void addNumber(int row, int unknown, int number) {
            if (row >= 0 && row < ROWS && unknown >= 0 && unknown < MOST_UNKNOWNS) {
                numbers[row * MOST_UNKNOWNS + unknown] = number;
                has[row] |= 1 << unknown;
            }
        }

        void hold(int eq, int positions) {
            if (eq >= 0 && eq < holds.length) {
                holds[eq] |= positions;
            }
        }

        void addConstant(int eq, int number) {
            if (eq >= 0 && eq < constants.length) {
                constants[eq] += number;
            }
        }

        void putNoise(int gauge, int noise) {
            if (gauge >= 0 && gauge < noiseOfGauge.length) {
                noiseOfGauge[gauge] = noise;
            }
        }

        void putCost(int gauge, int cost) {
            if (gauge >= 0 && gauge < costOfGauge.length) {
                costOfGauge[gauge] = cost;
            }
        }

        void putRowOfFault(int fault, int row) {
            if (fault >= 0 && fault < rowOfFault.length) {
                rowOfFault[fault] = row;
            }
        }

        long constantOf(int row) {
            if (isEq(row)) {
                return constants[row];
            }
            int gauge = row - MOST_EQS;
            return isGauge(gauge) ? -readings[gauge] : 0;
        }

        int noiseOf(int row) {
            int gauge = row - MOST_EQS;
            return isGauge(gauge) ? noiseOfGauge[gauge] : 0;
        }

        int costOf(int gaugeBits) {
            int sum = 0;
            for (int g = 0; g < MOST_GAUGES; g++) {
                if (hasBit(gaugeBits, g)) {
                    sum += costOfGauge[g];
                }
            }
            return sum;
        }

        int netAt(int position, int in, int dead) {
            int rows = (in & ~dead) << MOST_EQS;
            for (int eq = 0; eq < eqs && eq < MOST_EQS; eq++) {
                if (hasBit(holds[eq], position)) {
                    rows |= 1 << eq;
                }
            }
            return rows & (ROW_SETS - 1);
        }

        int netNow() {
            return netAt(position, inBits, deadBits);
        }

        int faultsOf(int rows) {
            int bits = 0;
            for (int f = 0; f < faults && f < MOST_FAULTS; f++) {
                if (hasBit(rows, rowOfFault[f])) {
                    bits |= 1 << f;
                }
            }
            return bits;
        }
    }

    /** The TOKENS of a text, and what is none, to the end or to the first that is too many. */
    private static final class Tokens {
        private final int[] kinds = new int[MOST_TOKENS + 2];
        private final int[] places = new int[MOST_TOKENS + 2];
        /** Of an INT its value; of a NAME its letters, five bits each. */
        private final long[] values = new long[MOST_TOKENS + 2];
        private int count = 0;

        void part(byte[] text, int length) {
            count = 0;
            int at = behindBlanks(text, length, 0);
            // One TOKEN more than there may be: the parser asks first if a text goes on with it.
            for (int n = 0; n <= MOST_TOKENS && at < length; n++) {
                at = behindBlanks(text, length, take(text, length, at));
            }
            put(T_END, length, 0);
        }

        int kindAt(int index) {
            return index >= 0 && index < count ? kinds[index] : T_END;
        }

        int placeAt(int index) {
            return index >= 0 && index < count ? places[index] : 0;
        }

        long valueAt(int index) {
            return index >= 0 && index < count ? values[index] : 0;
        }

        private void put(int kind, int place, long value) {
            if (count >= 0 && count < kinds.length) {
                kinds[count] = kind;
                places[count] = place;
                values[count] = value;
                count++;
            }
        }

        private int take(byte[] text, int length, int at) {
            int sign = signAt(text, length, at);
            if (isLetter(sign)) {
                return takeLetters(text, length, at);
            }
            if (isDigit(sign)) {
                return takeDigits(text, length, at);
            }
            put(kindOfSign(sign), at, 0);
            return at + 1;
        }

        private int takeLetters(byte[] text, int length, int at) {
            long name = 0;
            int end = at;
            for (; end < length && isLetter(signAt(text, length, end)); end++) {
                name = end - at < MOST_LETTERS ? withLetter(name, signAt(text, length, end)) : name;
            }
            put(end - at > MOST_LETTERS ? T_OTHER : kindOfLetters(name), at, name);
            return end;
        }

        private int takeDigits(byte[] text, int length, int at) {
            long value = 0;
            int end = at;
            for (; end < length && isDigit(signAt(text, length, end)); end++) {
                value = end - at < MOST_DIGITS ? value * 10 + signAt(text, length, end) - '0' : value;
            }
            put(end - at > MOST_DIGITS ? T_OTHER : T_INT, at, value);
            return end;
        }

        private static int behindBlanks(byte[] text, int length, int from) {
            for (int at = from; at < length; at++) {
                if (!isBlank(signAt(text, length, at))) {
                    return at;
                }
            }
            return length;
        }

        private static int signAt(byte[] text, int length, int at) {
            return at >= 0 && at < length && at < text.length ? text[at] & 255 : 0;
        }

        private static boolean isBlank(int sign) {
            return sign == 9 || sign == 10 || sign == 13 || sign == 32;
        }

        private static boolean isLetter(int sign) {
            return sign >= 'a' && sign <= 'z';
        }

        private static boolean isDigit(int sign) {
            return sign >= '0' && sign <= '9';
        }

        private static long withLetter(long name, int letter) {
            return name * 32 + (letter - 'a' + 1);
        }

        private static long nameOf(String word) {
            long name = 0;
            for (int i = 0; i < word.length(); i++) {
                name = withLetter(name, word.charAt(i));
            }
            return name;
        }

        private static int kindOfLetters(long name) {
            if (name == nameOf("unknown")) {
                return T_UNKNOWN;
            }
            if (name == nameOf("eq")) {
                return T_EQ;
            }
            if (name == nameOf("in")) {
                return T_IN;
            }
            if (name == nameOf("gauge")) {
                return T_GAUGE;
            }
            if (name == nameOf("maybe")) {
                return T_MAYBE;
            }
            if (name == nameOf("of")) {
                return T_OF;
            }
            if (name == nameOf("noise")) {
                return T_NOISE;
            }
            if (name == nameOf("cost")) {
                return T_COST;
            }
            return name == nameOf("fault") ? T_FAULT : T_NAME;
        }

        private static int kindOfSign(int sign) {
            switch (sign) {
                case ';':
                    return T_SEMICOLON;
                case ':':
                    return T_COLON;
                case ',':
                    return T_COMMA;
                case '+':
                    return T_PLUS;
                case '-':
                    return T_MINUS;
                default:
                    return T_OTHER;
            }
        }
    }

    /**
     * Reads a text into works of its own. A SYNTAX or ROOM fault ends the reading; the first of the others
     * is only kept, for a SYNTAX or ROOM fault behind it still goes ahead of it.
     */
    private static final class Parser {
        private final Tokens tokens = new Tokens();
        private Works works = new Works();
        private int at = 0;
        private int fault = 0;
        private int place = NONE;
        private int keptFault = 0;
        private int keptPlace = NONE;
        private final long[] names = new long[MOST_NAMES];
        /** What a NAME is (the TOKEN that tells it) and its number there. */
        private final int[] nameKinds = new int[MOST_NAMES];
        private final int[] nameNumbers = new int[MOST_NAMES];
        private int nameCount = 0;

        /** 0, or the text's FAULT, which is then at place. */
        int parse(byte[] text, int length) {
            tokens.part(text, length);
            begin();
            for (int n = 0; n <= MOST_TOKENS && fault == 0 && kind() != T_END; n++) {
                switch (kind()) {
                    case T_UNKNOWN:
                        parseUnknown();
                        break;
                    case T_EQ:
                        parseEq();
                        break;
                    case T_GAUGE:
                    case T_MAYBE:
                        parseGauge(kind());
                        break;
                    case T_FAULT:
                        parseFault();
                        break;
                    default:
                        stop(SYNTAX);
                        break;
                }
            }
            if (fault == 0) {
                fault = keptFault;
                place = keptPlace;
            }
            return fault;
        }

        private void begin() {
            works.clear();
            at = 0;
            fault = 0;
            place = NONE;
            keptFault = 0;
            keptPlace = NONE;
            nameCount = 0;
        }

        /** Hands over what was read; the works given stand by for the next text. */
        Works exchange(Works old) {
            Works done = works;
            works = old;
            return done;
        }

        private int kind() {
            return tokens.kindAt(at);
        }

        private boolean stop(int number) {
            if (fault == 0) {
                fault = number;
                place = tokens.placeAt(at);
            }
            return false;
        }

        private void keep(int number, int index) {
            if (keptFault == 0) {
                keptFault = number;
                keptPlace = tokens.placeAt(index);
            }
        }

        private boolean accept(int kind) {
            if (fault != 0) {
                return false;
            }
            if (kind() != kind) {
                return stop(SYNTAX);
            }
            if (at >= MOST_TOKENS) {
                return stop(ROOM);
            }
            at++;
            return true;
        }

        /** The first TOKEN of what is told, and the NAME behind it. */
        private boolean acceptHead(int kind, int number, int most) {
            if (number >= most) {
                return stop(ROOM);
            }
            if (!accept(kind) || !accept(T_NAME)) {
                return false;
            }
            long name = tokens.valueAt(at - 1);
            if (find(name) != NONE) {
                keep(TWICE, at - 1);
            }
            if (nameCount < MOST_NAMES) {
                names[nameCount] = name;
                nameKinds[nameCount] = kind == T_MAYBE ? T_GAUGE : kind;
                nameNumbers[nameCount] = number;
                nameCount++;
            }
            return true;
        }

        private int find(long name) {
            for (int i = 0; i < nameCount && i < MOST_NAMES; i++) {
                if (names[i] == name) {
                    return i;
                }
            }
            return NONE;
        }

        /** The number of what the NAME just read names, if it is of that kind; NONE otherwise. */
        private int numberNamed(int kind) {
            int i = find(tokens.valueAt(at - 1));
            return i >= 0 && i < MOST_NAMES && nameKinds[i] == kind ? nameNumbers[i] : NONE;
        }

        private void parseUnknown() {
            if (acceptHead(T_UNKNOWN, works.unknowns, MOST_UNKNOWNS)) {
                works.unknowns++;
                accept(T_SEMICOLON);
            }
        }

        private void parseEq() {
            int eq = works.eqs;
            if (!acceptHead(T_EQ, eq, MOST_EQS)) {
                return;
            }
            works.eqs++;
            boolean on = parsePositions(eq) && accept(T_COLON) && parseTerm(eq);
            for (int n = 0; n < MOST_TOKENS && on && (kind() == T_PLUS || kind() == T_MINUS); n++) {
                on = parseTerm(eq);
            }
            if (on) {
                accept(T_SEMICOLON);
            }
        }

        private boolean parsePositions(int eq) {
            if (kind() != T_IN) {
                works.hold(eq, ALL_POSITIONS);
                return true;
            }
            boolean on = accept(T_IN) && parsePosition(eq);
            for (int n = 0; n < MOST_TOKENS && on && kind() == T_COMMA; n++) {
                on = accept(T_COMMA) && parsePosition(eq);
            }
            return on;
        }

        private boolean parsePosition(int eq) {
            if (!accept(T_INT)) {
                return false;
            }
            works.hold(eq, 1 << intWithin(0, POSITIONS - 1));
            return true;
        }

        /** The INT just read; one that is WRONG is kept as a fault, and least stands for it. */
        private int intWithin(int least, int most) {
            long value = tokens.valueAt(at - 1);
            if (value < least || value > most) {
                keep(WRONG, at - 1);
                return least;
            }
            return (int) value;
        }

        private boolean parseTerm(int eq) {
            int sign = kind() == T_MINUS ? -1 : 1;
            if (!accept(kind() == T_MINUS ? T_MINUS : T_PLUS)) {
                return false;
            }
            if (kind() == T_NAME) {
                return parseNamed(eq, sign);
            }
            if (!accept(T_INT)) {
                return false;
            }
            if (kind() == T_NAME) {
                return parseNamed(eq, sign * intWithin(1, MOST_NUMBER));
            }
            works.addConstant(eq, sign * intWithin(0, MOST_CONSTANT));
            return true;
        }

        private boolean parseNamed(int eq, int number) {
            if (!accept(T_NAME)) {
                return false;
            }
            int unknown = numberNamed(T_UNKNOWN);
            if (unknown == NONE) {
                keep(NAME, at - 1);
            } else if (hasBit(works.hasOf(eq), unknown)) {
                keep(TWICE, at - 1);
            } else {
                works.addNumber(eq, unknown, number);
            }
            return true;
        }

        private void parseGauge(int kind) {
            int gauge = works.gauges;
            if (!acceptHead(kind, gauge, MOST_GAUGES)) {
                return;
            }
            works.gauges++;
            works.inBits = withBit(works.inBits, gauge, kind == T_GAUGE);
            if (!accept(T_OF) || !accept(T_NAME)) {
                return;
            }
            int unknown = numberNamed(T_UNKNOWN);
            if (unknown == NONE) {
                keep(NAME, at - 1);
            } else {
                works.addNumber(MOST_EQS + gauge, unknown, 1);
            }
            if (parseNoise(gauge) && parseCost(gauge)) {
                accept(T_SEMICOLON);
            }
        }

        private boolean parseNoise(int gauge) {
            if (kind() != T_NOISE) {
                return true;
            }
            if (!accept(T_NOISE) || !accept(T_INT)) {
                return false;
            }
            works.putNoise(gauge, intWithin(0, MOST_NOISE));
            return true;
        }

        private boolean parseCost(int gauge) {
            if (kind() != T_COST) {
                return true;
            }
            if (!accept(T_COST) || !accept(T_INT)) {
                return false;
            }
            works.putCost(gauge, intWithin(1, MOST_COST));
            return true;
        }

        private void parseFault() {
            int number = works.faults;
            if (!acceptHead(T_FAULT, number, MOST_FAULTS)) {
                return;
            }
            works.faults++;
            if (!accept(T_IN) || !accept(T_NAME)) {
                return;
            }
            int eq = numberNamed(T_EQ);
            int gauge = numberNamed(T_GAUGE);
            if (eq != NONE) {
                works.putRowOfFault(number, eq);
            } else if (gauge != NONE) {
                works.putRowOfFault(number, MOST_EQS + gauge);
            } else {
                keep(NAME, at - 1);
            }
            accept(T_SEMICOLON);
        }
    }

    /** How many PAIRS each set of the told ROWS has. */
    private static final class Pairs {
        private final byte[] most = new byte[ROW_SETS];
        /** Whether some pairing takes just these UNKNOWNS. */
        private final boolean[] taken = new boolean[UNKNOWN_SETS];

        void countAll(Works works) {
            int eqSets = 1 << Math.min(works.eqs, MOST_EQS);
            int gaugeSets = 1 << Math.min(works.gauges, MOST_GAUGES);
            for (int g = 0; g < gaugeSets; g++) {
                for (int e = 0; e < eqSets; e++) {
                    int rows = (g << MOST_EQS) | e;
                    if (rows < most.length) {
                        most[rows] = (byte) countOne(works, rows);
                    }
                }
            }
        }

        /** By the marriage theorem: the least, over its subsets, of their UNKNOWNS and the ROWS beside. */
        private int countOne(Works works, int rows) {
            int unknowns = 0;
            int least = ROWS;
            for (int row = 0; row < ROWS; row++) {
                if (hasBit(rows, row)) {
                    unknowns |= works.hasOf(row);
                    least = Math.min(least, of(rows & ~(1 << row)) + 1);
                }
            }
            return Math.min(least, Integer.bitCount(unknowns));
        }

        int of(int rows) {
            return rows >= 0 && rows < most.length ? most[rows] : 0;
        }

        boolean isMore(int rows, int row) {
            return hasBit(rows, row) && of(rows & ~(1 << row)) == of(rows);
        }

        boolean isParted(int rows, int row, int other) {
            return row != other && hasBit(rows, row) && isMore(without(rows, other), row);
        }

        private static int without(int rows, int row) {
            return hasBit(rows, row) ? rows & ~(1 << row) : rows;
        }

        /** The UNKNOWNS (bits) without which ROWS have as many PAIRS: some greatest pairing leaves them out. */
        int leftOut(Works works, int rows) {
            for (int set = 0; set < UNKNOWN_SETS; set++) {
                taken[set] = set == 0;
            }
            for (int row = 0; row < ROWS; row++) {
                if (hasBit(rows, row)) {
                    pairRow(works.hasOf(row));
                }
            }
            int pairCount = of(rows);
            int left = 0;
            for (int set = 0; set < UNKNOWN_SETS; set++) {
                if (taken[set] && Integer.bitCount(set) == pairCount) {
                    left |= ~set;
                }
            }
            return left & ((1 << works.unknowns) - 1);
        }

        private void pairRow(int unknowns) {
            // Downward, so that what this ROW adds is not taken for what was there ahead of it.
            for (int set = UNKNOWN_SETS - 1; set >= 0; set--) {
                for (int k = 0; k < MOST_UNKNOWNS && taken[set]; k++) {
                    if (hasBit(unknowns, k) && !hasBit(set, k)) {
                        taken[set | (1 << k)] = true;
                    }
                }
            }
        }
    }

    /** The TESTS of all ROWS told, in their order; those of THE NET are the ones that have only its ROWS. */
    private static final class Tests {
        private static final int NOT_YET = 0;
        private static final int CAN_RUN = 1;
        private static final int CANNOT_RUN = 2;

        private final int[] rowSets = new int[MOST_TESTS];
        private final int[] states = new int[MOST_TESTS];
        /** By TEST, then by its ROWS from the least on. */
        private final long[] weights = new long[MOST_TESTS * MOST_TEST_ROWS];
        private final Elimination elimination = new Elimination();
        private int count = 0;

        void gather(Works works, Pairs pairs) {
            count = 0;
            int eqSets = 1 << Math.min(works.eqs, MOST_EQS);
            int gaugeSets = 1 << Math.min(works.gauges, MOST_GAUGES);
            for (int size = 1; size <= MOST_TEST_ROWS; size++) {
                for (int g = 0; g < gaugeSets; g++) {
                    for (int e = 0; e < eqSets; e++) {
                        addIfTest(pairs, (g << MOST_EQS) | e, size);
                    }
                }
            }
        }

        private void addIfTest(Pairs pairs, int rows, int size) {
            if (Integer.bitCount(rows) != size || count >= MOST_TESTS || !isTest(pairs, rows, size)) {
                return;
            }
            rowSets[count] = rows;
            states[count] = NOT_YET;
            count++;
        }

        /** A TEST is a set of ROWS that can't all be paired, while without any one of them all can. */
        private static boolean isTest(Pairs pairs, int rows, int size) {
            if (pairs.of(rows) != size - 1) {
                return false;
            }
            for (int row = 0; row < ROWS; row++) {
                if (hasBit(rows, row) && pairs.of(rows & ~(1 << row)) != size - 1) {
                    return false;
                }
            }
            return true;
        }

        int rowsOf(int t) {
            return t >= 0 && t < count && t < MOST_TESTS ? rowSets[t] : NONE;
        }

        boolean isIn(int t, int net) {
            int rows = rowsOf(t);
            return rows != NONE && (rows & ~net) == 0;
        }

        boolean hasRow(int t, int row) {
            int rows = rowsOf(t);
            return rows != NONE && hasBit(rows, row);
        }

        int countIn(int net) {
            int n = 0;
            for (int t = 0; t < count; t++) {
                n += isIn(t, net) ? 1 : 0;
            }
            return n;
        }

        int find(int k, int net) {
            int n = 0;
            for (int t = 0; t < count && k >= 0; t++) {
                if (isIn(t, net)) {
                    if (n == k) {
                        return t;
                    }
                    n++;
                }
            }
            return NONE;
        }

        /** Makes the WEIGHTS of THE NET's TESTS that were not asked for yet. */
        void weigh(Works works, int net) {
            for (int t = 0; t < count && t < MOST_TESTS; t++) {
                if (states[t] == NOT_YET && (rowSets[t] & ~net) == 0) {
                    states[t] = elimination.solve(works, rowSets[t]) ? CAN_RUN : CANNOT_RUN;
                    for (int i = 0; i < MOST_TEST_ROWS; i++) {
                        weights[t * MOST_TEST_ROWS + i] = elimination.weightAt(i);
                    }
                }
            }
        }

        boolean canRun(int t) {
            return t >= 0 && t < count && t < MOST_TESTS && states[t] == CAN_RUN;
        }

        /** The WEIGHT of a ROW in a TEST; 0 of a ROW that it has not, or if it can't be RUN. */
        long weightOf(int t, int row) {
            if (!canRun(t) || !hasBit(rowSets[t], row)) {
                return 0;
            }
            int index = Integer.bitCount(rowSets[t] & ((1 << row) - 1));
            return index < MOST_TEST_ROWS ? weights[t * MOST_TEST_ROWS + index] : 0;
        }

        long noughtOf(Works works, int t) {
            long sum = 0;
            for (int row = 0; row < ROWS; row++) {
                if (hasRow(t, row)) {
                    sum += weightOf(t, row) * works.constantOf(row);
                }
            }
            return sum;
        }

        long boundOf(Works works, int t) {
            long sum = 0;
            for (int row = MOST_EQS; row < ROWS; row++) {
                if (hasRow(t, row)) {
                    sum += Math.abs(weightOf(t, row)) * works.noiseOf(row);
                }
            }
            return sum;
        }

        boolean isRinging(Works works, int t) {
            return Math.abs(noughtOf(works, t)) > boundOf(works, t);
        }
    }

    /**
     * The exact sums by which the UNKNOWNS of a TEST fall out. A line of the grid is an UNKNOWN, a column
     * a ROW. All numbers in it stay whole: they are determinants of parts of the TEST, and below 2^32.
     */
    private static final class Elimination {
        private final long[] grid = new long[MOST_UNKNOWNS * MOST_TEST_ROWS];
        private final int[] columnOfLine = new int[MOST_UNKNOWNS];
        private final long[] found = new long[MOST_TEST_ROWS];
        private int lines = 0;
        private int columns = 0;
        private int solvedLines = 0;
        private int freeColumn = NONE;
        private long pivot = 1;

        /** Whether the TEST can be RUN: just one column is left free then. */
        boolean solve(Works works, int rows) {
            fillGrid(works, rows);
            solvedLines = 0;
            freeColumn = NONE;
            pivot = 1;
            for (int column = 0; column < columns; column++) {
                int line = lineWith(column);
                if (line != NONE) {
                    solveLine(line, column);
                } else if (freeColumn == NONE) {
                    freeColumn = column;
                } else {
                    return false;
                }
            }
            if (freeColumn == NONE) {
                return false;
            }
            collect();
            makeLeast();
            return true;
        }

        long weightAt(int i) {
            return i >= 0 && i < found.length ? found[i] : 0;
        }

        private void fillGrid(Works works, int rows) {
            Arrays.fill(grid, 0);
            Arrays.fill(found, 0);
            int unknowns = 0;
            columns = 0;
            for (int row = 0; row < ROWS; row++) {
                unknowns |= hasBit(rows, row) ? works.hasOf(row) : 0;
            }
            for (int row = 0; row < ROWS && columns < MOST_TEST_ROWS; row++) {
                if (hasBit(rows, row)) {
                    fillColumn(works, row, unknowns);
                    columns++;
                }
            }
            lines = Math.min(Integer.bitCount(unknowns), MOST_UNKNOWNS);
        }

        private void fillColumn(Works works, int row, int unknowns) {
            int line = 0;
            for (int k = 0; k < MOST_UNKNOWNS; k++) {
                if (hasBit(unknowns, k)) {
                    put(line, columns, works.numberIn(row, k));
                    line++;
                }
            }
        }

        private long get(int line, int column) {
            int index = line * MOST_TEST_ROWS + column;
            return index >= 0 && index < grid.length ? grid[index] : 0;
        }

        private void put(int line, int column, long number) {
            int index = line * MOST_TEST_ROWS + column;
            if (index >= 0 && index < grid.length) {
                grid[index] = number;
            }
        }

        private int lineWith(int column) {
            for (int line = solvedLines; line < lines; line++) {
                if (get(line, column) != 0) {
                    return line;
                }
            }
            return NONE;
        }

        private void solveLine(int line, int column) {
            swapLines(line, solvedLines);
            long before = pivot;
            pivot = get(solvedLines, column);
            for (int other = 0; other < lines; other++) {
                if (other != solvedLines) {
                    clearColumn(other, column, before);
                }
            }
            if (solvedLines >= 0 && solvedLines < MOST_UNKNOWNS) {
                columnOfLine[solvedLines] = column;
            }
            solvedLines++;
        }

        private void swapLines(int one, int other) {
            for (int column = 0; column < columns; column++) {
                long kept = get(one, column);
                put(one, column, get(other, column));
                put(other, column, kept);
            }
        }

        /** Divides by the pivot before, which always goes in without a rest: so the numbers stay small. */
        private void clearColumn(int line, int column, long before) {
            long factor = get(line, column);
            for (int c = 0; c < columns; c++) {
                long number = pivot * get(line, c) - factor * get(solvedLines, c);
                put(line, c, before == 0 ? 0 : number / before);
            }
        }

        private void collect() {
            if (freeColumn >= 0 && freeColumn < found.length) {
                found[freeColumn] = pivot;
            }
            for (int line = 0; line < solvedLines && line < MOST_UNKNOWNS; line++) {
                int column = columnOfLine[line];
                if (column >= 0 && column < found.length) {
                    found[column] = -get(line, freeColumn);
                }
            }
        }

        private void makeLeast() {
            long divisor = 0;
            long first = 0;
            for (int i = 0; i < columns; i++) {
                divisor = divisorOfBoth(divisor, weightAt(i));
                first = first == 0 ? weightAt(i) : first;
            }
            long by = first < 0 ? -divisor : divisor;
            for (int i = 0; i < found.length && by != 0; i++) {
                found[i] /= by;
            }
        }
    }

    /** By what ALL IS TOLD. */
    private static final class Telling {
        /** THE NET by POSITION; 0 of those that are not asked. */
        private final int[] nets = new int[POSITIONS];

        boolean isToldBy(Works works, Pairs pairs, int positions) {
            setNets(works, positions, works.inBits, works.deadBits);
            return isAllTold(works, pairs, works.faultsOf(ROW_SETS - 1));
        }

        private void setNets(Works works, int positions, int in, int dead) {
            for (int p = 0; p < POSITIONS; p++) {
                nets[p] = hasBit(positions, p) ? works.netAt(p, in, dead) : 0;
            }
        }

        /** Whether all is told of these FAULTS (bits) by the nets. */
        private boolean isAllTold(Works works, Pairs pairs, int faults) {
            for (int f = 0; f < MOST_FAULTS; f++) {
                if (hasBit(faults, f) && !isSeen(pairs, works.rowOf(f))) {
                    return false;
                }
                for (int other = 0; other < MOST_FAULTS; other++) {
                    boolean both = hasBit(faults, f) && hasBit(faults, other) && f != other;
                    if (both && !isParted(pairs, works.rowOf(f), works.rowOf(other))) {
                        return false;
                    }
                }
            }
            return true;
        }

        private boolean isSeen(Pairs pairs, int row) {
            for (int p = 0; p < POSITIONS; p++) {
                if (pairs.isMore(nets[p], row)) {
                    return true;
                }
            }
            return false;
        }

        private boolean isParted(Pairs pairs, int row, int other) {
            for (int p = 0; p < POSITIONS; p++) {
                if (pairs.isParted(nets[p], row, other)) {
                    return true;
                }
            }
            return false;
        }

        int cheapestAdded(Works works, Pairs pairs, boolean spare) {
            int free = ((1 << works.gauges) - 1) & ~works.inBits & ~works.deadBits;
            int best = NO_ONE;
            int bestCost = 0;
            for (int added = 0; added < GAUGE_SETS; added++) {
                int cost = works.costOf(added);
                boolean better = best == NO_ONE || cost < bestCost;
                if ((added & ~free) == 0 && better && isToldWith(works, pairs, added, spare)) {
                    best = added;
                    bestCost = cost;
                }
            }
            return best;
        }

        private boolean isToldWith(Works works, Pairs pairs, int added, boolean spare) {
            int here = 1 << works.position;
            int in = works.inBits | added;
            int faults = works.faultsOf(ROW_SETS - 1);
            setNets(works, here, in, works.deadBits);
            boolean is = isAllTold(works, pairs, faults);
            for (int g = 0; g < MOST_GAUGES && is && spare; g++) {
                if (hasBit(in & ~works.deadBits, g)) {
                    setNets(works, here, in, works.deadBits | (1 << g));
                    is = isAllTold(works, pairs, faults & ~works.faultsOf(1 << (MOST_EQS + g)));
                }
            }
            return is;
        }

        int dearestTaken(Works works, Pairs pairs) {
            int living = works.inBits & ~works.deadBits;
            int best = 0;
            for (int taken = 1; taken < GAUGE_SETS; taken++) {
                boolean better = works.costOf(taken) > works.costOf(best);
                if ((taken & ~living) == 0 && better && isToldWithout(works, pairs, taken << MOST_EQS)) {
                    best = taken;
                }
            }
            return best;
        }

        /** Whether all that is SEEN and PARTED of FAULTS in other ROWS stays so without these ROWS. */
        private static boolean isToldWithout(Works works, Pairs pairs, int rows) {
            int net = works.netNow();
            int left = net & ~rows;
            for (int f = 0; f < works.faults; f++) {
                int row = works.rowOf(f);
                if (hasBit(left, row) && !isKept(works, pairs, net, left, row)) {
                    return false;
                }
            }
            return true;
        }

        private static boolean isKept(Works works, Pairs pairs, int net, int left, int row) {
            if (pairs.isMore(net, row) && !pairs.isMore(left, row)) {
                return false;
            }
            for (int f = 0; f < works.faults; f++) {
                int other = works.rowOf(f);
                boolean taken = hasBit(net & ~left, other);
                if (!taken && pairs.isParted(net, row, other) && !pairs.isParted(left, row, other)) {
                    return false;
                }
            }
            return true;
        }

        int fewestPositions(Works works, Pairs pairs) {
            int best = NO_ONE;
            for (int set = 1; set <= ALL_POSITIONS; set++) {
                boolean better = best == NO_ONE || Integer.bitCount(set) < Integer.bitCount(best);
                if (better && isToldBy(works, pairs, set)) {
                    best = set;
                }
            }
            return best;
        }
    }

    /** The latest ROUTINE. */
    private static final class Routine {
        private final int[] used = new int[ROWS];
        private int count = 0;
        private int left = 0;
        private int foundUnknowns = 0;

        void run(Works works, int rows) {
            count = 0;
            left = rows;
            foundUnknowns = 0;
            int next = nextRow(works);
            for (int n = 0; n < ROWS && next != NONE; n++) {
                if (count < used.length) {
                    used[count] = next;
                    count++;
                }
                left &= ~(1 << next);
                foundUnknowns |= works.hasOf(next);
                next = nextRow(works);
            }
        }

        int rowAt(int i) {
            return i >= 0 && i < count && i < used.length ? used[i] : NONE;
        }

        private int nextRow(Works works) {
            for (int row = 0; row < ROWS; row++) {
                if (hasBit(left, row) && Integer.bitCount(works.hasOf(row) & ~foundUnknowns) == 1) {
                    return row;
                }
            }
            return NONE;
        }
    }

    /** All rows of noise of a TEST's GAUGES, one behind the other. */
    private static final class Noises {
        private final long[] weights = new long[MOST_GAUGES];
        private final int[] most = new int[MOST_GAUGES];
        private final int[] now = new int[MOST_GAUGES];

        int countAbove(Works works, Tests tests, int t, long added, long mark) {
            long sum = added;
            int rowsOfNoise = 1;
            for (int g = 0; g < MOST_GAUGES; g++) {
                int row = MOST_EQS + g;
                weights[g] = tests.weightOf(t, row);
                most[g] = tests.hasRow(t, row) ? works.noiseOf(row) : 0;
                now[g] = -most[g];
                sum += weights[g] * now[g];
                rowsOfNoise *= 2 * most[g] + 1;
            }
            int above = 0;
            for (int n = 0; n < rowsOfNoise; n++) {
                above += Math.abs(sum) > mark ? 1 : 0;
                sum += step();
            }
            return above;
        }

        /** Goes on to the next row of noise; by how much the sum grows then. */
        private long step() {
            long grown = 0;
            for (int g = 0; g < MOST_GAUGES; g++) {
                if (now[g] < most[g]) {
                    now[g]++;
                    return grown + weights[g];
                }
                grown -= weights[g] * 2 * most[g];
                now[g] = -most[g];
            }
            return grown;
        }
    }

    /** From what rings to FAULTS. */
    private static final class Blame {
        /** Above all FAULTS' bits: no TEST has rung yet. */
        private static final int UNRUNG = FAULT_SETS;
        private static final int ALL_LEFT = UNRUNG | (FAULT_SETS - 1);

        /** Whether a TEST rings that has the ROWS of just these FAULTS (bits). */
        private final boolean[] rung = new boolean[FAULT_SETS];
        /** FAULTS of a TEST that does not ring. */
        private int quietFaults = 0;
        private int faults = 0;
        /** By size: FAULTS that all TESTS have which ring from that size on. */
        private final int[] common = new int[MOST_JUDGED + 1];

        void hear(Works works, Tests tests) {
            for (int bits = 0; bits < FAULT_SETS; bits++) {
                rung[bits] = false;
            }
            quietFaults = 0;
            faults = works.faults;
            int net = works.netNow();
            for (int t = 0; t < tests.count; t++) {
                if (tests.isIn(t, net) && tests.canRun(t)) {
                    int bits = works.faultsOf(tests.rowsOf(t)) & (FAULT_SETS - 1);
                    if (tests.isRinging(works, t)) {
                        rung[bits] = true;
                    } else {
                        quietFaults |= bits;
                    }
                }
            }
        }

        private boolean isEnough(int set) {
            for (int bits = 0; bits < FAULT_SETS; bits++) {
                if (rung[bits] && (bits & set) == 0) {
                    return false;
                }
            }
            return true;
        }

        private boolean isSet(int set, boolean strict) {
            if ((strict && (set & quietFaults) != 0) || !isEnough(set)) {
                return false;
            }
            for (int f = 0; f < MOST_FAULTS; f++) {
                if (hasBit(set, f) && isEnough(set & ~(1 << f))) {
                    return false;
                }
            }
            return true;
        }

        int countSets(boolean strict) {
            int n = 0;
            for (int size = 0; size <= MOST_BLAMED; size++) {
                n += countSetsOf(strict, size, NONE);
            }
            return n;
        }

        /** How many SETS of a size there are, those alone that have a FAULT, if it is not NONE. */
        private int countSetsOf(boolean strict, int size, int fault) {
            int n = 0;
            for (int set = 0; set < (1 << faults); set++) {
                boolean asked = Integer.bitCount(set) == size && (fault == NONE || hasBit(set, fault));
                n += asked && isSet(set, strict) ? 1 : 0;
            }
            return n;
        }

        int setAt(boolean strict, int i) {
            int n = 0;
            for (int size = 0; size <= MOST_BLAMED && i >= 0; size++) {
                for (int set = 0; set < (1 << faults); set++) {
                    if (Integer.bitCount(set) == size && isSet(set, strict)) {
                        if (n == i) {
                            return set;
                        }
                        n++;
                    }
                }
            }
            return NONE;
        }

        int bestLook() {
            int all = countSets(false);
            int best = NO_ONE;
            int bestGreater = 0;
            for (int f = 0; f < faults; f++) {
                int having = 0;
                for (int size = 0; size <= MOST_BLAMED; size++) {
                    having += countSetsOf(false, size, f);
                }
                int greater = Math.max(having, all - having);
                if (best == NO_ONE || greater < bestGreater) {
                    best = f;
                    bestGreater = greater;
                }
            }
            return best;
        }

        /** Whether the WEIGHTS of two ROWS are one by a factor through all TESTS, and not all 0. */
        boolean isHiding(Works works, Tests tests, int row, int other) {
            int net = works.netNow();
            long one = 0;
            long two = 0;
            for (int t = 0; t < tests.count && row != other; t++) {
                long a = tests.isIn(t, net) ? tests.weightOf(t, row) : 0;
                long b = tests.isIn(t, net) ? tests.weightOf(t, other) : 0;
                // Their products could be too great for a long, so the factors are compared shortened.
                long by = a < 0 ? -divisorOfBoth(a, b) : divisorOfBoth(a, b);
                if (by != 0) {
                    boolean first = one == 0;
                    one = first ? a / by : one;
                    two = first ? b / by : two;
                    if (a == 0 || b == 0 || a / by != one || b / by != two) {
                        return false;
                    }
                }
            }
            return one != 0;
        }

        /** From what size on the FAULT of a ROW makes a TEST ring without noise; 0: from none on. */
        private static long ringsFrom(Works works, Tests tests, int t, int net, int row) {
            long weight = tests.isIn(t, net) ? Math.abs(tests.weightOf(t, row)) : 0;
            return weight == 0 ? 0 : tests.boundOf(works, t) / weight + 1;
        }

        /** The FAULT that is the first SET alone; NONE: no TEST rings. */
        int firstBlamed(Works works, Tests tests, int fault, int size) {
            int net = works.netNow();
            int row = works.rowOf(fault);
            int left = ALL_LEFT;
            for (int t = 0; t < tests.count; t++) {
                long from = ringsFrom(works, tests, t, net, row);
                if (from > 0 && from <= size) {
                    left &= works.faultsOf(tests.rowsOf(t));
                }
            }
            return firstOf(left);
        }

        /** All TESTS that ring have the FAULT's own ROW, so that some FAULT is always left of all. */
        private static int firstOf(int left) {
            for (int f = 0; f < MOST_FAULTS && (left & UNRUNG) == 0; f++) {
                if (hasBit(left, f)) {
                    return f;
                }
            }
            return NONE;
        }

        int countJudged(Works works, Tests tests, int fault, int sizes, int what) {
            gatherCommon(works, tests, fault);
            int left = ALL_LEFT;
            int n = 0;
            for (int size = 1; size <= sizes && size < common.length; size++) {
                left &= common[size];
                int blamed = firstOf(left);
                int judged = blamed == fault ? 0 : blamed == NONE ? 1 : 2;
                n += judged == what ? 1 : 0;
            }
            return n;
        }

        private void gatherCommon(Works works, Tests tests, int fault) {
            Arrays.fill(common, ALL_LEFT);
            int net = works.netNow();
            int row = works.rowOf(fault);
            for (int t = 0; t < tests.count; t++) {
                long from = ringsFrom(works, tests, t, net, row);
                if (from > 0 && from < common.length) {
                    common[(int) from] &= works.faultsOf(tests.rowsOf(t));
                }
            }
        }
    }
}
