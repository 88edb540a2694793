/** Each sentence on routines, sums and SETS that names an edge has a test of its own here (III, promises 25 to 38, 40, 41). */
public final class SumEdgesTest {
    private static final int[] NO_INDEX = {-1, -2, -32, 32, 33, 64, 256, 1 << 16, 1 << 30, Integer.MAX_VALUE, Integer.MIN_VALUE};
    private static final long NO_WEIGHT = -1000000000000L;
    private static final long NO_NOUGHT = -1000000000000000L;
    /** One TEST: a, g with the WEIGHTS 1, -1, BOUND 3. */
    private static final String ONE = "unknown u;eq a:+u;gauge g of u noise 3;fault p in a;fault q in g;";
    /** TESTS of one ROW each that ring by their constants: a, b, c, d; e does not. */
    private static final String BELLS = "eq a:+1;eq b:-1;eq c:+1;eq d:+1;eq e:+0;";
    /** One TEST of all, which can't be RUN. */
    private static final String STUCK = "unknown x;unknown y;eq a:+x+y;eq b:+2x+2y;eq c:+3x+3y+1;fault p in a;fault q in b;";

    public static void main(String[] args) {
        routines();
        routineEnds();
        weights();
        noWeights();
        noughts();
        bounds();
        rings();
        from();
        odds();
        oddsRefused();
        sets();
        setsOrder();
        strict();
        look();
        hide();
        judged();
        mistaken();
        noneBeforeTwo();
        Check.end();
    }

    private static void due(String call, long got, long want) {
        Check.due(call, got, want);
    }

    private static void routines() {
        Check.holds("25, 26, 27: NONE: no such TEST, ROW of it", () -> {
            GaugeNet x = Check.of("unknown u;eq a:+u;eq b:+1;gauge g of u;maybe h of u;");
            // TESTS: b; a and g.
            due("uses", x.uses(1, 0), 1);
            noRoutine(x, 1, 1);
            noRoutine(x, 1, 9);
            noRoutine(x, 1, 2);
            noRoutine(x, 2, 0);
            noRoutine(x, 0, 0);
            for (int odd : NO_INDEX) {
                noRoutine(x, odd, 0);
                noRoutine(x, 1, odd);
                noRoutine(x, odd, odd);
            }
            noRoutine(x, 1, 14);
            noRoutine(x, 1, 40);
            noRoutine(new GaugeNet(), 0, 0);
        });
        Check.holds("26: the i-th ROW (from 0 on); NONE: not so many", () -> {
            GaugeNet x = Check.of("unknown x;unknown y;eq a:+x+y;gauge g of x;gauge h of y;");
            due("uses", x.uses(0, 0), 2);
            due("use", x.use(0, 0, 0), 8);
            due("use", x.use(0, 0, 1), 9);
            due("use", x.use(0, 0, 2), -1);
            for (int i : NO_INDEX) {
                due("use " + i, x.use(0, 0, i), -1);
            }
        });
        Check.holds("26, 27: after a ROUTINE that used more", () -> {
            GaugeNet x = Check.of("unknown x;unknown y;eq a:+x+y;eq b:+x-y;gauge g of x;gauge h of y;");
            // TESTS: a, b, g; a, b, h; a, g, h; b, g, h.
            due("uses", x.uses(0, 0), 2);
            due("uses: a, b", x.uses(0, 8), 0);
            due("use", x.use(0, 8, 0), -1);
            due("ring", x.ring(0, 8), 3);
            due("uses", x.uses(2, 0), 2);
            due("ring", x.ring(2, 0), 0);
        });
    }

    private static void noRoutine(GaugeNet x, int test, int without) {
        due("uses " + test + " " + without, x.uses(test, without), -1);
        due("use " + test + " " + without, x.use(test, without, 0), -1);
        due("ring " + test + " " + without, x.ring(test, without), -1);
    }

    private static void routineEnds() {
        Check.holds("A ROUTINE of a TEST of one ROW: there are no others", () -> {
            GaugeNet x = Check.of("eq a:+1;");
            due("uses", x.uses(0, 0), 0);
            due("use", x.use(0, 0, 0), -1);
            due("ring", x.ring(0, 0), 0);
        });
        Check.holds("A ROUTINE of a TEST of eight ROWS uses seven", () -> {
            GaugeNet x = Check.of("unknown a;unknown b;unknown c;unknown d;unknown e;unknown f;unknown g;eq p:+a+b;eq q:+b+c;"
                    + "eq r:+c+d;eq s:+d+e;eq t:+e+f;eq u:+f+g;gauge h of g;gauge i of a;");
            int[] forth = {9, 0, 1, 2, 3, 4, 5};
            int[] back = {8, 5, 4, 3, 2, 1, 0};
            due("uses", x.uses(0, 8), 7);
            due("uses", x.uses(0, 9), 7);
            for (int i = 0; i < 7; i++) {
                due("use", x.use(0, 8, i), forth[i]);
                due("use", x.use(0, 9, i), back[i]);
            }
            due("use", x.use(0, 8, 7), -1);
            due("ring", x.ring(0, 8), 0);
        });
        Check.holds("the least such ROW is used", () -> {
            GaugeNet x = Check.of("unknown x;unknown y;eq a:+x+y;eq b:+x-y;gauge g of x;gauge h of y;");
            due("use: g, then a goes ahead of h", x.use(2, 9, 0), 8);
            due("use", x.use(2, 9, 1), 0);
            due("use: g ahead of h", x.use(2, 0, 0), 8);
        });
        Check.holds("What cannot be used so is a RING: all, some, none", () -> {
            GaugeNet x = Check.of("unknown x;unknown y;unknown z;eq a:+x+y;eq b:+x-y;eq c:+x+y+z;gauge g of z;");
            due("test", x.test(0), 263);
            due("ring: g, then none", x.ring(0, 0), 6);
            due("uses", x.uses(0, 0), 1);
            due("ring: a, b, c", x.ring(0, 8), 7);
            due("uses", x.uses(0, 8), 0);
        });
    }

    private static void weights() {
        Check.holds("28, 29, 30, 31, 32: no such TEST", () -> {
            GaugeNet x = Check.of(ONE);
            noSums(x, 1);
            for (int k : NO_INDEX) {
                noSums(x, k);
            }
            noSums(new GaugeNet(), 0);
            due("runs", x.runs(0), 1);
        });
        Check.holds("29: no such ROW of it", () -> {
            GaugeNet x = Check.of("unknown u;eq a:+u;eq b:+1;gauge g of u;maybe h of u;");
            int[] due = {1, 0, 0, 0, 0, 0, 0, 0, -1};
            for (int row = 0; row < 15; row++) {
                due("weight " + row, x.weight(1, row), row == 0 || row == 8 ? due[row] : NO_WEIGHT);
            }
            for (int row : NO_INDEX) {
                due("weight " + row, x.weight(1, row), NO_WEIGHT);
            }
        });
        Check.holds("WEIGHTS: of a ROW that HAS no UNKNOWN 1", () -> {
            GaugeNet x = Check.of("eq a:-7;eq b:+0;");
            due("weight", x.weight(0, 0), 1);
            due("nought", x.nought(0), -7);
            due("weight", x.weight(1, 1), 1);
            due("nought", x.nought(1), 0);
        });
        Check.holds("WEIGHTS: without a divisor of all above 1", () -> {
            GaugeNet x = Check.of("unknown u;eq a:+6u;eq b:+4u;");
            due("weight", x.weight(0, 0), 2);
            due("weight", x.weight(0, 1), -3);
            x = Check.of("unknown u;eq a:+9u;eq b:-9u;");
            due("weight", x.weight(0, 0), 1);
            due("weight", x.weight(0, 1), 1);
        });
        Check.holds("WEIGHTS: the first is above 0 of each sign of the numbers", () -> {
            String[] signs = {"+", "-"};
            for (String s : signs) {
                for (String t : signs) {
                    GaugeNet x = Check.of("unknown u;eq a:" + s + "2u;eq b:" + t + "3u;");
                    due("weight " + s + t, x.weight(0, 0), 3);
                    due("weight " + s + t, x.weight(0, 1), s.equals(t) ? -2 : 2);
                }
            }
        });
        Check.holds("WEIGHTS: the first that is not 0 is above 0", () -> {
            GaugeNet x = Check.of("unknown x;unknown y;eq a:+6x+4y;eq b:-x-y;eq c:+x+y;");
            due("weight", x.weight(0, 0), 0);
            due("weight", x.weight(0, 1), 1);
            due("weight", x.weight(0, 2), 1);
            x = Check.of("unknown x;unknown y;eq b:-x-y;eq c:+3x+3y;eq a:+6x+4y;");
            due("weight", x.weight(0, 0), 3);
            due("weight", x.weight(0, 1), 1);
            due("weight: 0 is last", x.weight(0, 2), 0);
        });
    }

    private static void noSums(GaugeNet x, int test) {
        due("runs " + test, x.runs(test), -1);
        due("weight " + test, x.weight(test, 0), NO_WEIGHT);
        due("nought " + test, x.nought(test), NO_NOUGHT);
        due("bound " + test, x.bound(test), -1);
        due("rings " + test, x.rings(test), -1);
        due("from " + test, x.from(test, 0), -1);
        due("odds " + test, x.odds(test, -1, 0, -1), -1);
    }

    private static void noWeights() {
        Check.holds("all such rows of numbers are not one by a factor: it can't be RUN", () -> {
            GaugeNet x = Check.of(STUCK);
            due("tests", x.tests(), 1);
            due("runs", x.runs(0), 0);
            due("weight", x.weight(0, 0), NO_WEIGHT);
            due("nought", x.nought(0), NO_NOUGHT);
            due("bound", x.bound(0), -1);
            due("rings", x.rings(0), -1);
            due("from", x.from(0, 0), -1);
            due("odds", x.odds(0, -1, 0, -1), -1);
            due("sets", x.sets(false), 1);
            due("set", x.set(false, 0), 0);
            due("hide", x.hide(0, 1), 0);
            due("judged: none rings", x.judged(0, 200, 1), 200);
            due("mistaken", x.mistaken(0, 9999), 0);
        });
        Check.holds("a TEST that can't be RUN has routines all the same", () -> {
            GaugeNet x = Check.of(STUCK);
            due("uses", x.uses(0, 1), 0);
            due("ring", x.ring(0, 1), 5);
            due("still", x.still(0), 0);
            due("seen", x.seen(0), 1);
        });
        Check.holds("one TEST that can't be RUN among others: only it", () -> {
            GaugeNet x = Check.of("unknown x;unknown y;eq a:+x+y+1;eq b:+x+y;eq c:+x+y;gauge g of x;gauge h of y;");
            // a, b, c can't; a, b, g can, and all others.
            due("test", x.test(0), 7);
            due("runs", x.runs(0), 0);
            due("tests", x.tests(), 1 + 6 + 3);
            for (int k = 1; k < 10; k++) {
                due("runs", x.runs(k), 1);
            }
            due("runs", x.runs(10), -1);
        });
        Check.holds("28: by the changes too: the TESTS of a new NET", () -> {
            GaugeNet x = Check.of("unknown x;unknown y;eq a:+x+y;eq b:+x+y;eq c in 1:+2x+2y;eq d in 0:+x-y;");
            due("runs", x.runs(0), 1);
            due("weight", x.weight(0, 3), 0);
            x.position(1);
            due("runs", x.runs(0), 0);
            x.position(0);
            due("runs", x.runs(0), 1);
            due("read", Check.read(x, STUCK), 0);
            due("runs", x.runs(0), 0);
        });
    }

    private static void noughts() {
        Check.holds("NOUGHT: the sum of WEIGHTS by the ROWS' constants, of a GAUGE less its READING", () -> {
            GaugeNet x = Check.of("unknown u;eq a:+2u+999-1;gauge g of u;");
            due("weight", x.weight(0, 0), 1);
            due("weight", x.weight(0, 8), -2);
            due("nought", x.nought(0), 998);
            x.reading(0, 9999);
            due("nought", x.nought(0), 998 + 2 * 9999);
            x.reading(0, -9999);
            due("nought", x.nought(0), 998 - 2 * 9999);
            x.reading(0, -499);
            due("nought", x.nought(0), 0);
        });
        Check.holds("NOUGHT is above what an int can hold", () -> {
            GaugeNet x = great();
            // The WEIGHTS are 9 to the 6th, 5th .. 1st and 1, then -1 of h and -9 to the 7th of g.
            due("weight", x.weight(0, 0), 531441);
            due("weight", x.weight(0, 5), 9);
            due("weight", x.weight(0, 6), 1);
            due("weight", x.weight(0, 8), -4782969);
            x.reading(0, 9999);
            due("nought", x.nought(0), 4782969L * 9999);
            x.reading(0, -9999);
            due("nought", x.nought(0), -4782969L * 9999);
            due("bound", x.bound(0), 4782969L * 3);
            due("rings", x.rings(0), 1);
            x.reading(0, 3);
            due("rings: not above the bound", x.rings(0), 0);
            x.reading(0, 4);
            due("rings", x.rings(0), 1);
            due("from", x.from(0, 0), 2 * 4782969L * 3 + 1);
            due("odds", x.odds(0, 1, 9999, 4782969L * 9998), 4);
        });
    }

    /** A chain in which each UNKNOWN is nine times the one ahead: its last ROW, 9 g, has the WEIGHT 1. */
    private static GaugeNet great() {
        return Check.of("unknown a;unknown b;unknown c;unknown d;unknown e;unknown f;unknown g;eq p:+9a-b;eq q:+9b-c;eq r:+9c-d;"
                + "eq s:+9d-e;eq t:+9e-f;eq u:+9f-g;eq v:+9g;gauge h of a noise 3;fault y in v;fault z in h;");
    }

    private static void bounds() {
        Check.holds("BOUND: 0 without GAUGES, and of GAUGES without NOISE", () -> {
            due("bound", Check.of("eq a:+1;").bound(0), 0);
            due("bound", Check.of("unknown u;eq a:+u;gauge g of u;").bound(0), 0);
        });
        Check.holds("BOUND: the sum of WEIGHTS without sign by NOISES", () -> {
            GaugeNet x = Check.of("unknown u;unknown v;eq a:+2u-3v;gauge g of u noise 3;gauge h of v noise 1;");
            due("weight", x.weight(0, 8), -2);
            due("weight", x.weight(0, 9), 3);
            due("bound", x.bound(0), 9);
            due("bound: two of one UNKNOWN", Check.of("unknown u;gauge g of u noise 3;gauge h of u noise 2;").bound(0), 5);
        });
    }

    private static void rings() {
        Check.holds("It RINGS if NOUGHT without sign is above its BOUND", () -> {
            GaugeNet x = Check.of(ONE);
            int[] readings = {-4, -3, 0, 3, 4};
            int[] due = {1, 0, 0, 0, 1};
            for (int i = 0; i < readings.length; i++) {
                x.reading(0, readings[i]);
                due("rings", x.rings(0), due[i]);
                due("sets", x.sets(false), due[i] == 1 ? 2 : 1);
            }
        });
        Check.holds("It RINGS: with a BOUND of 0 if NOUGHT is not 0", () -> {
            GaugeNet x = Check.of("eq a:+0;eq b:+1;eq c:-1;");
            due("rings", x.rings(0), 0);
            due("rings", x.rings(1), 1);
            due("rings", x.rings(2), 1);
        });
    }

    private static void from() {
        Check.holds("SEEN FROM: its WEIGHT by s without sign is above twice the BOUND", () -> {
            GaugeNet x = Check.of(ONE);
            due("from: 6 is not above 6", x.from(0, 0), 7);
            due("from", x.from(0, 1), 7);
            x = Check.of("unknown u;eq a:+u;eq b:+3u;gauge g of u noise 1;fault p in g;fault q in b;");
            // TESTS: a, b; a, g; b, g. The last has the WEIGHTS 1, -3.
            due("from: 3 s above 6", x.from(2, 0), 3);
            due("from: s above 6", x.from(2, 1), 7);
            x = Check.of("unknown u;eq a:+4u;gauge g of u noise 1;fault p in g;");
            due("from: 4 s above 8", x.from(0, 0), 3);
            x = Check.of("unknown u;unknown v;eq a:+2u+3v;gauge g of u noise 2;gauge h of v noise 1;fault p in h;fault q in g;");
            due("from: 3 s above 14", x.from(0, 0), 5);
            due("from: 2 s above 14", x.from(0, 1), 8);
        });
        Check.holds("SEEN FROM: the least s of 1 or more", () -> {
            due("from", Check.of("unknown u;eq a:+u;gauge g of u;fault p in a;").from(0, 0), 1);
            due("from", Check.of("eq a:+1;fault p in a;").from(0, 0), 1);
        });
        Check.holds("33: -2: its WEIGHT is 0, or it is no ROW of it", () -> {
            GaugeNet x = Check.of("unknown x;unknown y;eq a:+6x+4y;eq b:+x+y;eq c:+x+y;eq d:+1;fault p in a;fault q in d;");
            due("test", x.test(1), 7);
            due("from: a WEIGHT of 0", x.from(1, 0), -2);
            due("from: no ROW of it", x.from(1, 1), -2);
            due("from: no ROW of it", x.from(0, 0), -2);
            due("from", x.from(0, 1), 1);
        });
        Check.holds("33: -2 of a ROW that is not in THE NET", () -> {
            GaugeNet x = Check.of("eq a:+1;eq b in 1:+1;fault p in b;");
            due("from", x.from(0, 0), -2);
        });
        Check.holds("33: -1: no such ones, it can't be RUN", () -> {
            GaugeNet x = Check.of(ONE);
            for (int odd : NO_INDEX) {
                due("from " + odd, x.from(odd, 0), -1);
                due("from " + odd, x.from(0, odd), -1);
            }
            due("from", x.from(1, 0), -1);
            due("from", x.from(0, 2), -1);
            due("from", Check.of(STUCK).from(0, 0), -1);
        });
    }

    private static void odds() {
        Check.holds("34: of all: fault NONE, mark -1", () -> {
            String s = "unknown a;unknown b;unknown c;unknown d;unknown e;unknown f;eq x:+a+b+c+d+e+f;";
            for (char c = 'a'; c <= 'f'; c++) {
                s += "gauge g" + c + " of " + c + " noise 3;";
            }
            GaugeNet x = Check.of(s);
            due("odds: six GAUGES of seven each", x.odds(0, -1, 0, -1), 117649);
            due("odds: all but those of the sum 0", x.odds(0, -1, 0, 0), 117649 - 9331);
            due("odds: the two farthest", x.odds(0, -1, 0, 17), 2);
            due("odds: none is above the BOUND", x.odds(0, -1, 0, 18), 0);
        });
        Check.holds("34: without NOISE there is one row of noise, without GAUGES too", () -> {
            due("odds", Check.of("eq a:+1;").odds(0, -1, 0, -1), 1);
            due("odds", Check.of("eq a:+1;").odds(0, -1, 0, 0), 0);
            due("odds: constants are no noise", Check.of("eq a:+999;fault p in a;").odds(0, 0, 0, 0), 0);
            due("odds", Check.of("eq a:+999;fault p in a;").odds(0, 0, 1, 0), 1);
            due("odds", Check.of("unknown u;eq a:+u;gauge g of u;").odds(0, -1, 0, -1), 1);
        });
        Check.holds("34: GAUGES with the WEIGHT 0 have their noise too", () -> {
            GaugeNet x = Check.of("unknown x;unknown y;eq a:+x+y;eq b:+x+y;gauge g of x noise 2;gauge h of x noise 1;");
            // TESTS: g, h; a, b, g; a, b, h.
            due("weight", x.weight(1, 8), 0);
            due("odds", x.odds(1, -1, 0, -1), 5);
            due("odds", x.odds(1, -1, 0, 0), 0);
        });
        Check.holds("34: without sign above a mark, not at it", () -> {
            GaugeNet x = Check.of(ONE);
            int[] due = {7, 6, 4, 2, 0, 0};
            for (int mark = -1; mark < 5; mark++) {
                due("odds", x.odds(0, -1, 0, mark), due[mark + 1]);
            }
            due("odds: of 2 .. 8 above 7", x.odds(0, 0, 5, 7), 1);
            due("odds: of -8 .. -2 above 7", x.odds(0, 0, -5, 7), 1);
            due("odds: of 2 .. 8 above 8", x.odds(0, 0, 5, 8), 0);
            due("odds: of -2 .. 4 above 1", x.odds(0, 0, 1, 1), 4);
        });
        Check.holds("34: READINGS are no noise", () -> {
            GaugeNet x = Check.of(ONE);
            x.reading(0, 9999);
            due("odds", x.odds(0, -1, 0, 2), 2);
        });
        Check.holds("34: a FAULT that is no ROW of it, or NONE, adds nothing", () -> {
            GaugeNet x = Check.of("unknown u;eq a:+u;eq b:+1;gauge g of u noise 1;fault p in b;");
            due("odds", x.odds(1, 0, 9999, 0), 2);
            due("odds", x.odds(1, -1, 9999, 0), 2);
            due("odds", x.odds(0, 0, 9999, 0), 1);
        });
        Check.holds("34: s -9999 .. 9999", () -> {
            GaugeNet x = Check.of(ONE);
            due("odds", x.odds(0, 0, 9999, 10001), 1);
            due("odds", x.odds(0, 0, -9999, 10001), 1);
            due("odds", x.odds(0, 0, 9999, 9995), 7);
        });
    }

    private static void oddsRefused() {
        Check.holds("34: NONE: s is not -9999 .. 9999, of the FAULT NONE too", () -> {
            GaugeNet x = Check.of(ONE);
            int[] sizes = {10000, -10000, 65536, Integer.MAX_VALUE, Integer.MIN_VALUE};
            for (int s : sizes) {
                due("odds " + s, x.odds(0, 0, s, -1), -1);
                due("odds " + s, x.odds(0, -1, s, -1), -1);
            }
        });
        Check.holds("34: NONE: mark is not -1 or more", () -> {
            GaugeNet x = Check.of(ONE);
            long[] marks = {-2, -3, Integer.MIN_VALUE, Long.MIN_VALUE, -1L - (1L << 32)};
            for (long mark : marks) {
                due("odds " + mark, x.odds(0, -1, 0, mark), -1);
            }
            long[] far = {Long.MAX_VALUE, 1L << 32, (1L << 32) + 1, (1L << 32) - 1, Integer.MAX_VALUE};
            for (long mark : far) {
                due("odds " + mark, x.odds(0, -1, 0, mark), 0);
            }
        });
        Check.holds("34: NONE: no such TEST, FAULT, it can't be RUN", () -> {
            GaugeNet x = Check.of(ONE);
            for (int odd : NO_INDEX) {
                due("odds " + odd, x.odds(odd, -1, 0, -1), -1);
                due("odds " + odd, x.odds(0, odd, 0, -1), odd == -1 ? 7 : -1);
            }
            due("odds", x.odds(1, -1, 0, -1), -1);
            due("odds", x.odds(0, 2, 0, -1), -1);
            due("odds", Check.of(STUCK).odds(0, 0, 0, -1), -1);
            due("odds: no FAULTS", Check.of("eq a:+1;").odds(0, 0, 0, -1), -1);
        });
    }

    private static void sets() {
        Check.holds("SETS: of no TEST that rings the one of none", () -> {
            GaugeNet x = Check.of("eq a:+0;fault p in a;");
            due("sets", x.sets(false), 1);
            due("sets", x.sets(true), 1);
            due("set", x.set(false, 0), 0);
            due("set", x.set(true, 0), 0);
            due("set", x.set(false, 1), -1);
        });
        Check.holds("SETS: none, if a TEST rings that has the ROW of no FAULT", () -> {
            GaugeNet x = Check.of("eq a:+1;eq b:+1;fault p in b;");
            due("sets", x.sets(false), 0);
            due("sets", x.sets(true), 0);
            due("set", x.set(false, 0), -1);
            due("sets: no FAULTS", Check.of("eq a:+1;").sets(false), 0);
        });
        Check.holds("SETS: 3 FAULTS at most", () -> {
            GaugeNet x = Check.of(BELLS + "fault p in a;fault q in b;fault r in c;fault s in d;");
            due("sets: four are needed", x.sets(false), 0);
            due("set", x.set(false, 0), -1);
            x = Check.of("eq a:+1;eq b:-1;eq c:+1;eq d in 1:+1;fault p in a;fault q in b;fault r in c;fault s in d;");
            due("sets: three are", x.sets(false), 1);
            due("set", x.set(false, 0), 7);
            x.position(1);
            due("sets", x.sets(false), 0);
        });
        Check.holds("SETS: none of fewer of it would do", () -> {
            GaugeNet x = Check.of("eq a:+1;fault p in a;fault q in a;fault r in a;");
            due("sets", x.sets(false), 3);
            due("set", x.set(false, 0), 1);
            due("set", x.set(false, 1), 2);
            due("set", x.set(false, 2), 4);
            due("set", x.set(false, 3), -1);
        });
        Check.holds("36: NONE: not so many, and below 0", () -> {
            GaugeNet x = Check.of(BELLS.replace("d:+1", "d:+0") + "fault p in a;fault q in b;fault r in c;");
            due("set", x.set(false, 0), 7);
            due("set", x.set(false, 1), -1);
            for (int i : NO_INDEX) {
                due("set " + i, x.set(false, i), -1);
                due("set " + i, x.set(true, i), -1);
            }
        });
        Check.holds("SETS: the last of eight FAULTS", () -> {
            String s = "eq a:+1;eq b:+0;";
            for (char c = 'c'; c <= 'i'; c++) {
                s += "fault " + c + " in b;";
            }
            GaugeNet x = Check.of(s + "fault j in a;");
            due("sets", x.sets(false), 1);
            due("set", x.set(false, 0), 128);
        });
    }

    private static void setsOrder() {
        Check.holds("SETS: by how many, then by bits", () -> {
            // The TESTS are a, g; b, g; a, b: the first two ring.
            GaugeNet x = Check.of("unknown u;eq a:+u;eq b:+u;gauge g of u;fault p in a;fault q in b;fault r in g;fault s in b;");
            x.reading(0, 5);
            due("sets", x.sets(false), 3);
            due("set", x.set(false, 0), 4);
            due("set", x.set(false, 1), 3);
            due("set", x.set(false, 2), 9);
        });
        Check.holds("SETS for all TESTS that ring, of THE NET alone", () -> {
            GaugeNet x = Check.of("eq a in 0:+1;eq b in 1:+1;fault p in a;fault q in b;");
            due("set", x.set(false, 0), 1);
            x.position(1);
            due("set", x.set(false, 0), 2);
            x.position(2);
            due("set", x.set(false, 0), 0);
        });
        Check.holds("SETS: the most there can be", () -> {
            // Two of a, two of b, four of c ring: each has the ROW of one of them.
            String s = "eq a:+1;eq b:+1;eq c:+1;fault p in a;fault q in a;fault r in b;fault s in b;fault t in c;fault u in c;"
                    + "fault v in c;fault w in c;";
            GaugeNet x = Check.of(s);
            due("sets", x.sets(false), 16);
            due("set", x.set(false, 0), 1 | 4 | 16);
            due("set", x.set(false, 15), 2 | 8 | 128);
            due("set", x.set(false, 16), -1);
        });
    }

    private static void strict() {
        Check.holds("strict: no TEST that does not ring has the ROW of one of it", () -> {
            GaugeNet x = Check.of("unknown u;eq a:+u;eq b:+u;gauge g of u;fault p in a;fault q in b;fault r in g;");
            x.reading(0, 5);
            due("sets", x.sets(false), 2);
            due("sets: a, b does not ring", x.sets(true), 1);
            due("set", x.set(true, 0), 4);
            due("set", x.set(true, 1), -1);
        });
        Check.holds("strict: it may be that there is none", () -> {
            GaugeNet x = Check.of("unknown u;gauge f of u;gauge g of u;gauge h of u noise 3;fault p in f;fault q in g;");
            x.reading(0, 1);
            due("sets", x.sets(false), 2);
            due("sets: f, h and g, h do not ring", x.sets(true), 0);
            due("set", x.set(true, 0), -1);
        });
        Check.holds("strict: the SET of none has no ROW that could be in one", () -> {
            GaugeNet x = Check.of("eq a:+0;fault p in a;");
            due("sets", x.sets(true), 1);
            due("set", x.set(true, 0), 0);
        });
        Check.holds("strict: TESTS that can't be RUN neither ring nor do not", () -> {
            GaugeNet x = Check.of("unknown x;unknown y;eq a:+x+y+1;eq b:+x+y;eq c:+x+y;gauge g of x;gauge h of y;fault p in a;fault q in b;");
            // All that have a ring, but a, b, c, which can't be RUN.
            due("test", x.test(0), 7);
            due("runs", x.runs(0), 0);
            due("sets", x.sets(false), 1);
            due("sets", x.sets(true), 1);
            due("set", x.set(true, 0), 1);
        });
    }

    private static void look() {
        Check.holds("37: -2: no FAULTS", () -> {
            due("look", new GaugeNet().look(), -2);
            due("look", Check.of("eq a:+1;").look(), -2);
        });
        Check.holds("THE LOOK: the greater of how many SETS have it, and how many have it not, is least", () -> {
            String s = "eq a:+1;eq b:+1;";
            due("look: r halves them", Check.of(s + "fault p in a;fault q in a;fault t in a;fault r in b;fault u in b;").look(), 3);
            due("look: p is in 1 of 3", Check.of(s + "fault q in b;fault p in a;fault r in a;fault t in a;").look(), 1);
        });
        Check.holds("THE LOOK: of these the first", () -> {
            due("look: of none that rings", Check.of("eq a:+0;fault p in a;fault q in a;").look(), 0);
            due("look: one SET", Check.of("eq a:+1;eq b:+0;fault q in b;fault p in a;").look(), 0);
            due("look: each is in 1 of 2", Check.of("eq a:+1;fault p in a;fault q in a;").look(), 0);
            due("look: no SETS", Check.of("eq a:+1;eq b:+0;fault p in b;").look(), 0);
        });
        Check.holds("THE LOOK: of eight FAULTS, behind those that no SET has, or all", () -> {
            String s = "eq a:+0;eq b:+1;eq c:+1;fault p in a;fault q in a;fault r in a;";
            due("look: t is in all, u in 1 of 2", Check.of(s + "fault s in a;fault t in b;fault u in c;fault v in c;").look(), 5);
            due("look: t is in all, v in 1 of 3", Check.of(s + "fault s in a;fault t in b;fault v in c;fault w in c;fault z in c;").look(), 5);
            due("look: t is in 1 of 2, s in all", Check.of(s + "fault s in b;fault t in c;fault u in c;").look(), 4);
        });
    }

    private static void hide() {
        Check.holds("38: NONE: no such ones, one and the same", () -> {
            GaugeNet x = Check.of(ONE);
            for (int odd : NO_INDEX) {
                due("hide " + odd, x.hide(odd, 0), -1);
                due("hide " + odd, x.hide(0, odd), -1);
                due("hide " + odd, x.hide(odd, odd), -1);
            }
            due("hide", x.hide(2, 0), -1);
            due("hide", x.hide(0, 2), -1);
            due("hide", x.hide(0, 0), -1);
            due("hide", x.hide(1, 1), -1);
            due("hide", x.hide(0, 1), 1);
        });
        Check.holds("Two FAULTS of two ROWS: not of one", () -> {
            due("hide", Check.of("unknown u;eq a:+u;gauge g of u;fault p in a;fault q in a;").hide(0, 1), 0);
        });
        Check.holds("some such TEST has a WEIGHT that is not 0 for one of them", () -> {
            due("hide: no TESTS", Check.of("unknown u;eq a:+u;eq b in 1:+u;fault p in a;fault q in b;").hide(0, 1), 0);
            String s = "unknown x;unknown y;eq a:+6x+4y;eq b:+x+y;eq c:+x+y;gauge g of x;fault p in a;fault q in g;";
            GaugeNet x = Check.of(s);
            // TESTS: a, b, c; a, b, g; a, c, g; b, c, g.
            due("hide: 0, 0 in two, 1, -2 in the others", x.hide(0, 1), 1);
            x = Check.of("unknown x;unknown y;unknown z;eq a:+x+y+z;eq b:+2x+y+3z;eq c:+y+z;eq d:+y+z;fault p in a;fault q in b;");
            due("hide: both have the WEIGHT 0 in the one TEST", x.tests(), 1);
            due("weight", x.weight(0, 0), 0);
            due("weight", x.weight(0, 1), 0);
            due("hide", x.hide(0, 1), 0);
        });
        Check.holds("sizes of both, not 0: one that has a WEIGHT alone is not hidden", () -> {
            GaugeNet x = Check.of("eq a:+1;eq b in 1:+1;fault p in a;fault q in b;");
            due("hide", x.hide(0, 1), 0);
            due("hide", x.hide(1, 0), 0);
        });
        Check.holds("all NOUGHTS of TESTS stay as they are: by the same sizes in all", () -> {
            GaugeNet x = Check.of("unknown u;eq a:+2u;eq b:+3u;gauge g of u;fault p in a;fault q in b;");
            due("hide: a, g has a alone", x.hide(0, 1), 0);
            x = Check.of("unknown x;unknown y;eq a:+x+y;gauge f of x;gauge h of y;gauge g of x;fault p in a;fault q in h;");
            due("hide: a and h are together in both TESTS", x.hide(0, 1), 1);
            due("hide", x.hide(1, 0), 1);
            x = Check.of("unknown x;unknown y;eq a:+x+y;eq b:+x-y;gauge g of x;gauge h of y;fault p in a;fault q in b;");
            due("hide: 1, 1 and 1, -1", x.hide(0, 1), 0);
        });
        Check.holds("all NOUGHTS of TESTS stay as they are: by sizes that are one by a factor below 0, too", () -> {
            // TESTS: r, g with 1, -1; r, p, q with 1, -1, 1; p, q, g with 1, -1, -1.
            GaugeNet x = Check.of("unknown w;unknown x;eq r:+x;eq p:+w+x;eq q:+w;gauge g of x;fault y in p;fault z in q;");
            due("weight", x.weight(1, 1), -1);
            due("weight", x.weight(2, 1), 1);
            due("hide", x.hide(0, 1), 1);
            due("hide", x.hide(1, 0), 1);
            x = Check.of("unknown w;unknown x;eq r:+6x;eq p:+2w+2x;eq q:+5w;gauge g of x;fault y in p;fault z in q;");
            due("hide", x.hide(0, 1), 1);
            due("hide", x.hide(1, 0), 1);
        });
        Check.holds("38: 1 of a factor that is below 0, and of one that is no whole number", () -> {
            due("hide", Check.of("unknown u;eq a:+2u;eq b:-3u;fault p in a;fault q in b;").hide(0, 1), 1);
            due("hide", Check.of("unknown u;eq a:+2u;eq b:+3u;fault p in a;fault q in b;").hide(1, 0), 1);
        });
    }

    private static void judged() {
        Check.holds("40: S (1 .. 200)", () -> {
            GaugeNet x = Check.of(ONE);
            due("judged", x.judged(0, 1, 1), 1);
            due("judged", x.judged(0, 200, 0), 197);
            due("judged", x.judged(0, 200, 1), 3);
            int[] none = {0, -1, 201, 256, 257, 65537, Integer.MAX_VALUE, Integer.MIN_VALUE};
            for (int s : none) {
                due("judged " + s, x.judged(0, s, 1), -1);
            }
        });
        Check.holds("40: what 0, 1, 2; NONE: no such ones", () -> {
            GaugeNet x = Check.of(ONE);
            due("judged", x.judged(1, 10, 0), 0);
            due("judged", x.judged(1, 10, 1), 3);
            due("judged", x.judged(1, 10, 2), 7);
            int[] none = {-1, 3, 4, 32, 256, Integer.MAX_VALUE, Integer.MIN_VALUE};
            for (int what : none) {
                due("judged " + what, x.judged(0, 10, what), -1);
            }
            for (int f : NO_INDEX) {
                due("judged " + f, x.judged(f, 10, 0), -1);
            }
            due("judged", x.judged(2, 10, 0), -1);
        });
        Check.holds("JUDGED: its WEIGHT by s without sign above the BOUND, not at it", () -> {
            GaugeNet x = Check.of(ONE);
            due("judged", x.judged(0, 3, 1), 3);
            due("judged", x.judged(0, 3, 0), 0);
            due("judged", x.judged(0, 4, 0), 1);
            x = Check.of("unknown u;eq a:+2u;gauge g of u noise 3;fault p in g;fault q in a;");
            due("judged: 2 s above 6", x.judged(0, 4, 0), 1);
            due("judged", x.judged(0, 4, 1), 3);
            due("judged: s above 6", x.judged(1, 7, 2), 1);
            due("judged", x.judged(1, 7, 1), 6);
        });
        Check.holds("JUDGED: all else well: whatever the READINGS and constants are", () -> {
            GaugeNet x = Check.of("unknown u;eq a:+u+999;gauge g of u noise 3;fault p in a;");
            x.reading(0, 5000);
            due("judged", x.judged(0, 10, 1), 3);
            due("judged", x.judged(0, 10, 0), 7);
        });
        Check.holds("JUDGED: UNSEEN of all sizes without TESTS, or with the WEIGHT 0 alone", () -> {
            due("judged", Check.of("unknown u;eq a:+u;fault p in a;").judged(0, 200, 1), 200);
            due("judged", Check.of("eq a in 1:+1;fault p in a;").judged(0, 200, 1), 200);
            GaugeNet x = Check.of("unknown x;unknown y;eq a:+6x+4y;eq b:+x+y;eq c:+x+y;fault p in a;");
            due("judged", x.judged(0, 200, 1), 200);
            due("mistaken", x.mistaken(0, 9999), 0);
        });
        Check.holds("JUDGED: FOUND if the first SET is it alone: of two FAULTS of one ROW the first", () -> {
            GaugeNet x = Check.of("eq a:+0;fault p in a;fault q in a;");
            due("judged", x.judged(0, 5, 0), 5);
            due("judged", x.judged(1, 5, 2), 5);
        });
        Check.holds("JUDGED: MISTAKEN up to a size, FOUND from it on", () -> {
            // q's ROW h: f, h rings above 1, g, h above 3; a is with f alone.
            GaugeNet x = Check.of("unknown u;gauge f of u noise 0;gauge h of u noise 1;gauge g of u noise 2;fault p in f;fault q in h;");
            due("judged", x.judged(1, 5, 1), 1);
            due("judged: 2 and 3", x.judged(1, 5, 2), 2);
            due("judged: 4 and 5", x.judged(1, 5, 0), 2);
            due("mistaken", x.mistaken(1, 1), 0);
            due("mistaken", x.mistaken(1, 2), 1);
            due("mistaken", x.mistaken(1, 3), 1);
            due("mistaken", x.mistaken(1, 4), 0);
        });
    }

    private static void mistaken() {
        Check.holds("41: a size (1 .. 9999); NONE: no such ones", () -> {
            GaugeNet x = Check.of("eq a:+0;fault p in a;fault q in a;");
            due("mistaken", x.mistaken(1, 1), 1);
            due("mistaken", x.mistaken(1, 9999), 1);
            int[] none = {0, -1, 10000, 65537, Integer.MAX_VALUE, Integer.MIN_VALUE};
            for (int size : none) {
                due("mistaken " + size, x.mistaken(1, size), -1);
            }
            for (int f : NO_INDEX) {
                due("mistaken " + f, x.mistaken(f, 1), -1);
            }
            due("mistaken", x.mistaken(2, 1), -1);
        });
        Check.holds("41: 0: it is UNSEEN, or it is FOUND", () -> {
            GaugeNet x = Check.of(ONE);
            due("mistaken: unseen", x.mistaken(1, 3), 0);
            due("mistaken", x.mistaken(1, 4), 1);
            due("mistaken: found", x.mistaken(0, 4), 0);
            x = great();
            due("mistaken: unseen by a BOUND far above 9999", x.mistaken(0, 9999), 0);
            due("judged", x.judged(0, 200, 1), 200);
            due("mistaken: z is found by 4 already, but y is ahead of it", x.mistaken(1, 4), 1);
            due("mistaken", x.mistaken(1, 3), 0);
        });
        Check.holds("41: the bits of the last but one of eight", () -> {
            String s = "eq a:+0;eq b:+0;fault c in a;fault d in a;fault e in a;fault f in a;fault g in a;fault h in a;";
            GaugeNet x = Check.of(s + "fault i in b;fault j in b;");
            due("mistaken", x.mistaken(7, 1), 64);
            due("mistaken", x.mistaken(6, 1), 0);
            due("mistaken", x.mistaken(5, 1), 1);
        });
    }

    private static void noneBeforeTwo() {
        Check.holds("Where NONE and -2 could both be told, it is NONE", () -> {
            due("parts", Check.of("eq a:+0;fault p in a;").parts(0, 1), -1);
            due("parts", Check.of("unknown u;eq a:+u;fault p in a;").parts(0, 1), -1);
            due("from: no ROW of it, and it can't be RUN", Check.of(STUCK + "eq d:+x;fault r in d;").from(0, 2), -1);
            due("from: no TEST, no FAULT", new GaugeNet().from(0, 0), -1);
        });
    }
}
