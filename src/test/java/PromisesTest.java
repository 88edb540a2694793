/** The promises one by one: ordinary inputs, the edges that the document names, wrong inputs. */
public final class PromisesTest {
    /** A pipe of two knots: rows a 0, b 1, g 8, h 9, k 10. */
    private static final String PIPE = "unknown x; unknown y; unknown z; eq a: + x - y; eq b: + y - z;"
            + "gauge g of x noise 1 cost 3; gauge h of z noise 2; maybe k of y cost 5;"
            + "fault p in a; fault q in b; fault r in g;";
    /** A valve: a holds in position 0, b in 1 and 3. */
    private static final String VALVE = "unknown x; unknown y; eq a in 0: + x + y; eq b in 1, 3: + x - 2 y;"
            + "gauge g of x; gauge h of y; fault p in a; fault q in b;";
    /** Only y is told too often; z too little. */
    private static final String PARTS = "unknown x; unknown y; unknown z; unknown w; unknown v;"
            + "eq a: + x + y; eq b: + z + w; gauge g of y; gauge h of y; maybe m of x;";
    /** Rows a, b, c name the same two unknowns; what a and b tell is one, by a factor. */
    private static final String SAME = "unknown x; unknown y; eq a: + x + y; eq b: + 2 x + 2 y - 5; eq c: + 3 x + 3 y + 7 - 2;"
            + "eq d: + 5 - 5 + 3; fault p in a; fault q in d;";
    /** One unknown, four gauges. */
    private static final String FOUR = "unknown x; gauge a of x noise 1 cost 4; gauge b of x cost 3; maybe c of x cost 3; maybe d of x cost 2;"
            + "fault p in a; fault q in b;";
    private static final long BIG = -1000000000000L;

    public static void main(String[] args) {
        tape();
        readingTexts();
        faultsOfTexts();
        namesAndNumbers();
        changes();
        net();
        tests();
        faults();
        telling();
        routines();
        sums();
        odds();
        sets();
        hidingAndStill();
        judging();
        counts();
        worst();
        crowded();
        lateTests();
        Check.end();
    }

    private static void due(String call, long got, long want) {
        Check.due(call, got, want);
    }

    private static void due(String call, boolean got, boolean want) {
        Check.due(call, got, want);
    }

    private static void fault(String text, int number, int place) {
        GaugeNet x = new GaugeNet();
        due("read() of " + text, Check.read(x, text), number);
        due("place() of " + text, x.place(), place);
        due("count(7)", x.count(7), 0);
    }

    private static void tape() {
        GaugeNet x = new GaugeNet();
        for (int what = 0; what < 8; what++) {
            due("1 count", x.count(what), 0);
        }
        due("1 count", x.count(10), -1);
        due("1 net", x.net(), 0);
        due("1 place", x.place(), -1);
        due("1 sets", x.sets(true), 1);
        for (int n = 1; n <= 100; n++) {
            due("2 feed", x.feed(n, -1, Integer.MIN_VALUE, 0, 7), 20 * n);
        }
        due("2 feed", x.feed(1, 2, 3, 4, 5), -1);
        due("2 tape", x.count(7), 2000);
        due("3 back", x.back(-1), -1);
        due("3 back", x.back(Integer.MIN_VALUE), -1);
        due("3 back", x.back(2001), -1);
        due("3 back", x.back(0), 2000);
        due("3 back", x.back(19), 1981);
        due("2 feed", x.feed(1, 2, 3, 4, 5), -1);
        due("3 back", x.back(1), 1980);
        due("2 feed", x.feed(1, 2, 3, 4, 5), 2000);
        due("3 back", x.back(2000), 0);
        due("3 back", x.back(1), -1);
        // The highest byte of a comes first: "unknown x;" and ten blanks.
        due("2 feed", x.feed(0x756e6b6e, 0x6f776e20, 0x783b2020, 0x20202020, 0x20202020), 20);
        due("4 read", x.read(), 0);
        due("4 read", x.count(0), 1);
        due("4 read empties", x.count(7), 0);
        due("2 feed", x.feed(0x756e6b6e, 0x6f776e20, 0xe93b2020, 0x20202020, 0x20202020), 20);
        due("4 read", x.read(), 1);
        due("5 place", x.place(), 8);
    }

    private static void readingTexts() {
        GaugeNet x = Check.of(PIPE);
        due("4", x.position(2), true);
        due("4", x.dead(0, true), true);
        due("4", x.reading(1, 50), true);
        due("4", x.in(2, true), true);
        due("4 faulty", Check.read(x, "unknown x; eq"), 1);
        due("5 place", x.place(), 13);
        due("4 changes nothing", x.count(4), 2);
        due("4 changes nothing", x.count(5), 7);
        due("4 changes nothing", x.count(6), 1);
        due("4 changes nothing", x.count(0), 3);
        due("4 again", Check.read(x, PIPE), 0);
        due("5 place", x.place(), -1);
        due("4 position", x.count(4), 0);
        due("4 in", x.count(5), 3);
        due("4 dead", x.count(6), 0);
        due("4 reading", x.nought(0), 0);
        due("4 empty", x.read(), 0);
        due("4 empty", x.count(0), 0);
        due("4 empty", x.count(3), 0);
        x = Check.of("\t\n\r unknown longname;eq\ta:+0009longname+999-0999\r\n;\n");
        due("10 number", x.number(0, 0), 9);
        due("4 constant", x.number(0, -1), 0);
    }

    private static void faultsOfTexts() {
        fault("unknown", 1, 7);
        fault("unknown  ", 1, 9);
        fault("unknown x", 1, 9);
        fault("unknown x;;", 1, 10);
        fault("unknown Xy;", 1, 8);
        fault("unknown in;", 1, 8);
        fault("unknown longnames;", 1, 8);
        fault("unknown longname;", 0, -1);
        fault("unknownx;", 1, 0);
        fault("unknown x.", 1, 9);
        fault("unknown x\f;", 1, 9);
        fault("eq a: ;", 1, 6);
        fault("eq a in : + 1;", 1, 8);
        fault("eq a in 0, : + 1;", 1, 11);
        fault("eq a in 00012: + 1;", 1, 8);
        fault("eq a: + 12345;", 1, 8);
        fault("eq a: 1;", 1, 6);
        fault("eq a: + 1 2;", 1, 10);
        fault("eq a: + ;", 1, 8);
        fault("unknown x; gauge g of x cost 1 noise 1;", 1, 31);
        fault("unknown x; gauge g of x noise cost 1;", 1, 30);
        fault("fault a in in;", 1, 11);
        StringBuilder s = new StringBuilder();
        for (char c = 'a'; c < 'h'; c++) {
            s.append("unknown ").append(c).append(';');
        }
        fault(s.toString(), 0, -1);
        fault(s + " unknown", 2, 71);
        fault(s + " unknown h; nothing", 2, 71);
        fault(s + "x unknown h;", 1, 70);
        fault("unknown x;" + "gauge a of x;maybe b of x;gauge c of x;".repeat(2).replaceFirst("(.*)a of x;maybe b of x;gauge c", "$1d of x;maybe e of x;gauge f"), 0, -1);
        fault("unknown x;" + "gauge a of x;".repeat(6) + "maybe g of x;", 2, 88);
        fault("eq a:+1;".repeat(8), 3, 11);
        fault("eq a:+1;".repeat(8) + "eq b:+1;", 2, 64);
        fault("eq a:+1;" + "fault a in a;".repeat(8), 3, 14);
        fault("eq a:+1;" + "fault a in a;".repeat(9), 2, 112);
        fault("eq a:" + "+1".repeat(198) + ";", 0, -1);
        fault("eq a:" + "+1".repeat(198) + "-;", 1, 402);
        fault("eq a:" + "+1".repeat(199) + ";", 2, 402);
        fault("eq a:" + "+1".repeat(198) + "+?", 1, 402);
        fault("eq a:" + "+1".repeat(198), 1, 401);
        fault("eq a:" + "+1".repeat(198) + "b", 1, 402);
    }

    private static void namesAndNumbers() {
        fault("unknown x; unknown x;", 3, 19);
        fault("unknown x; eq x: + 1;", 3, 14);
        fault("unknown x; gauge x of x;", 3, 17);
        fault("unknown x; eq a: + x; fault a in a;", 3, 28);
        fault("unknown x; eq a: + x - 2 x;", 3, 25);
        fault("unknown x; eq a: + x; eq b: + x;", 0, -1);
        fault("eq a: + x; unknown x;", 4, 8);
        fault("unknown x; eq a: + a;", 4, 19);
        fault("gauge g of x; unknown x;", 4, 11);
        fault("eq a: + 1; gauge g of a;", 4, 22);
        fault("unknown x; fault f in x;", 4, 22);
        fault("fault f in f;", 4, 11);
        fault("eq a: + 1; fault f in a; fault g in f;", 4, 36);
        fault("unknown x; eq a in 4: + x;", 5, 19);
        fault("unknown x; eq a in 3, 3, 0: + x;", 0, -1);
        fault("unknown x; eq a: + 0 x;", 5, 19);
        fault("unknown x; eq a: + 10 x;", 5, 19);
        fault("unknown x; eq a: + 9 x - 0009;", 0, -1);
        fault("unknown x; eq a: + 10 y;", 5, 19);
        fault("unknown x; eq a: + 9 y;", 4, 21);
        fault("eq a: + 1000;", 5, 8);
        fault("eq a: + 999;", 0, -1);
        fault("unknown x; gauge g of x noise 4;", 5, 30);
        fault("unknown x; gauge g of x noise 3 cost 0;", 5, 37);
        fault("unknown x; gauge g of x noise 3 cost 101;", 5, 37);
        fault("unknown x; gauge g of x noise 3 cost 100;", 0, -1);
        fault("unknown x; unknown x; eq a: + 0 x; eq", 1, 37);
        GaugeNet x = Check.of("unknown x; unknown y; eq a in 1: + 7 + 3 x - 9; eq b: - x + 5 y - 4;");
        due("10 number", x.number(0, 0), 3);
        due("10 number", x.number(0, 1), 0);
        due("10 number", x.number(0, -1), -2);
        due("10 number", x.number(1, 0), -1);
        due("10 number", x.number(1, 1), 5);
        due("10 number", x.number(1, -1), -4);
        due("10 number", x.number(2, 0), -10000);
        due("10 number", x.number(-1, 0), -10000);
        due("10 number", x.number(0, 2), -10000);
        due("10 number", x.number(0, -2), -10000);
    }

    private static void changes() {
        GaugeNet x = Check.of(VALVE);
        due("6 position", x.position(-1), false);
        due("6 position", x.position(4), false);
        due("11 net", x.net(), 769);
        due("6 position", x.position(3), true);
        due("11 net", x.net(), 770);
        due("6 position", x.position(2), true);
        due("11 net", x.net(), 768);
        due("7 in", x.in(0, false), true);
        due("11 net", x.net(), 512);
        due("7 in", x.in(2, true), false);
        due("7 in", x.in(-1, true), false);
        due("7 in", x.in(0, true), true);
        due("8 dead", x.dead(1, true), true);
        due("11 net", x.net(), 256);
        due("8 dead", x.dead(2, true), false);
        due("8 dead", x.dead(-1, true), false);
        due("7 in", x.in(1, false), true);
        due("8 dead", x.dead(1, false), true);
        due("11 net", x.net(), 256);
        due("9 reading", x.reading(0, 9999), true);
        due("9 reading", x.reading(0, -9999), true);
        due("9 reading", x.reading(0, 10000), false);
        due("9 reading", x.reading(0, -10000), false);
        due("9 reading", x.reading(2, 0), false);
        due("9 reading", x.reading(-1, 0), false);
        x = new GaugeNet();
        due("7 in", x.in(0, true), false);
        due("8 dead", x.dead(0, true), false);
        due("9 reading", x.reading(0, 0), false);
    }

    private static void net() {
        GaugeNet x = Check.of(PARTS);
        due("11 net", x.net(), 771);
        due("12 pairs", x.pairs(), 3);
        int[] rows = {1, 0, -1, -1, -1, -1, -1, -1, 2, 2, -1, -1, -1, -1, -1};
        for (int r = 0; r < rows.length; r++) {
            due("13 row " + r, x.row(r), rows[r]);
        }
        due("13 row", x.row(-1), -1);
        due("13 row", x.row(32), -1);
        due("13 row", x.row(40), -1);
        int[] unknowns = {1, 2, 0, 0, 0, -1};
        for (int u = 0; u < unknowns.length; u++) {
            due("14 unknown " + u, x.unknown(u), unknowns[u]);
        }
        due("14 unknown", x.unknown(-1), -1);
        due("7 in", x.in(2, true), true);
        due("12 pairs", x.pairs(), 3);
        due("13 row", x.row(0), 2);
        due("13 row", x.row(10), 2);
        due("14 unknown", x.unknown(0), 2);
        x = Check.of("eq a: + 5;");
        due("12 pairs", x.pairs(), 0);
        due("13 row", x.row(0), 2);
        x = Check.of("unknown x;");
        due("14 unknown", x.unknown(0), 0);
    }

    private static void tests() {
        GaugeNet x = Check.of(PIPE);
        due("15 tests", x.tests(), 1);
        due("16 test", x.test(0), 771);
        due("16 test", x.test(1), -1);
        due("16 test", x.test(-1), -1);
        x.in(2, true);
        due("15 tests", x.tests(), 3);
        due("16 test", x.test(0), 1281);
        due("16 test", x.test(1), 1538);
        due("16 test", x.test(2), 771);
        due("17 parts", x.parts(0, 1), 0);
        due("17 parts", x.parts(1, 0), 1);
        due("17 parts", x.parts(0, 2), -2);
        due("17 parts", x.parts(1, 2), 1);
        due("17 parts", x.parts(0, 0), -2);
        due("17 parts", x.parts(0, 3), -1);
        due("17 parts", x.parts(-1, 0), -1);
        x = Check.of(SAME);
        due("15 tests", x.tests(), 2);
        due("16 test", x.test(0), 8);
        due("16 test", x.test(1), 7);
        x = Check.of(FOUR);
        x.in(2, true);
        x.in(3, true);
        due("15 tests", x.tests(), 6);
        int[] sets = {768, 1280, 1536, 2304, 2560, 3072};
        for (int k = 0; k < 6; k++) {
            due("16 test", x.test(k), sets[k]);
        }
    }

    private static void faults() {
        GaugeNet x = Check.of(PIPE);
        due("18 seen", x.seen(0), 1);
        due("18 seen", x.seen(2), 1);
        due("18 seen", x.seen(3), -1);
        due("18 seen", x.seen(-1), -1);
        due("19 parted", x.parted(0, 1), 0);
        due("19 parted", x.parted(0, 0), -1);
        due("19 parted", x.parted(0, 3), -1);
        due("19 parted", x.parted(-1, 0), -1);
        x.in(2, true);
        due("19 parted", x.parted(0, 1), 1);
        due("19 parted", x.parted(0, 2), 0);
        x.dead(0, true);
        due("18 seen: not in the net", x.seen(2), 0);
        due("18 seen", x.seen(0), 0);
        due("18 seen", x.seen(1), 1);
        due("19 parted: not in the net", x.parted(2, 1), 0);
        due("19 parted from what is not in the net", x.parted(1, 2), 1);
        x = Check.of("unknown x; gauge g of x; gauge h of x; gauge i of x; fault p in g; fault q in g;");
        due("18 seen", x.seen(1), 1);
        due("19 parted: the same row", x.parted(0, 1), 0);
        due("20 told", x.told(1), 0);
    }

    private static void telling() {
        GaugeNet x = Check.of(VALVE);
        due("20 told", x.told(1), 0);
        due("20 told", x.told(3), 1);
        due("20 told", x.told(9), 1);
        due("20 told", x.told(10), 0);
        due("20 told", x.told(15), 1);
        due("20 told", x.told(0), -1);
        due("20 told", x.told(16), -1);
        due("20 told", x.told(-1), -1);
        due("23 positions", x.positions(), 3);
        due("21 adding", x.adding(false), -2);
        x.dead(0, true);
        due("20 told", x.told(15), 0);
        due("23 positions", x.positions(), -2);
        x = new GaugeNet();
        due("23 positions", x.positions(), 1);
        x = Check.of("unknown x; unknown y; eq a in 0, 2, 3: + x; eq b in 1, 2, 3: + y; gauge g of x; gauge h of y;"
                + "fault p in a; fault q in b;");
        due("20 told", x.told(3), 1);
        due("23 positions: the fewest go ahead of the least bits", x.positions(), 4);
        x = Check.of("unknown x; eq a in 0: + x; eq b in 1: + x; eq c in 2: + x; eq d in 3: + x; gauge g of x;"
                + "fault p in a; fault q in b; fault r in c; fault s in d;");
        due("23 positions: all are needed", x.positions(), 15);
        x = Check.of(FOUR);
        due("21 adding: c or d, the cheaper", x.adding(false), 8);
        due("21 adding: spare needs them both", x.adding(true), 12);
        x.dead(3, true);
        due("21 adding: d is dead", x.adding(false), 4);
        due("21 adding", x.adding(true), -2);
        x.dead(3, false);
        x.in(3, true);
        due("21 adding: nothing", x.adding(false), 0);
        due("21 adding", x.adding(true), 4);
        due("22 taking: all, for the faults go with a and b", x.taking(), 11);
        due("22 taking keeps", x.count(5), 11);
        x = Check.of("unknown x; gauge a of x cost 4; gauge b of x cost 4; gauge c of x cost 4; gauge d of x cost 4; fault p in a;");
        due("22 taking: of b, c, d one must stay, or a goes too", x.taking(), 15);
        x = Check.of("unknown x; eq e: + x; gauge a of x cost 4; gauge b of x cost 4; fault p in e;");
        due("22 taking: one must stay", x.taking(), 1);
        x.dead(0, true);
        due("22 taking: b must stay now", x.taking(), 0);
        x = Check.of("unknown x; eq e: + x; maybe a of x cost 4; maybe b of x cost 4; fault p in e;");
        due("21 adding: of the same cost the least bits", x.adding(false), 1);
        due("21 adding", x.adding(true), 3);
        x = Check.of(FOUR);
        due("24 cost", x.cost(0), 0);
        due("24 cost", x.cost(5), 7);
        due("24 cost", x.cost(15), 12);
        due("24 cost", x.cost(16), -1);
        due("24 cost", x.cost(-1), -1);
    }

    private static void routines() {
        GaugeNet x = Check.of(PIPE);
        due("25 uses", x.uses(0, 0), 3);
        due("26 use", x.use(0, 0, 0), 8);
        due("26 use", x.use(0, 0, 1), 9);
        due("26 use", x.use(0, 0, 2), 1);
        due("26 use", x.use(0, 0, 3), -1);
        due("26 use", x.use(0, 0, -1), -1);
        due("26 use", x.use(0, 10, 0), -1);
        due("26 use", x.use(1, 0, 0), -1);
        due("26 use", x.use(0, 9, 0), 8);
        due("26 use", x.use(0, 9, 1), 0);
        due("26 use", x.use(0, 9, 2), 1);
        due("27 ring", x.ring(0, 9), 0);
        due("27 ring", x.ring(0, 10), -1);
        due("27 ring", x.ring(1, 0), -1);
        due("27 ring", x.ring(-1, 0), -1);
        due("25 uses", x.uses(0, -1), -1);
        due("25 uses", x.uses(0, 32), -1);
        due("25 uses", x.uses(0, 2), -1);
        due("25 uses", x.uses(-1, 0), -1);
        x = Check.of(SAME);
        due("25 uses", x.uses(1, 1), 0);
        due("27 ring", x.ring(1, 1), 5);
        due("27 ring: of no rows", x.ring(0, 3), 0);
        due("25 uses: of no rows", x.uses(0, 3), 0);
        x = Check.of("unknown x; unknown y; unknown z; eq a: + x + y; eq b: + x - y; eq c: + z + y + x; gauge g of z;");
        due("25 uses", x.uses(0, 2), 1);
        due("26 use", x.use(0, 2, 0), 8);
        due("27 ring", x.ring(0, 2), 3);
    }

    private static void sums() {
        GaugeNet x = Check.of(VALVE);
        x.position(1);
        due("28 runs", x.runs(0), 1);
        due("28 runs", x.runs(1), -1);
        due("28 runs", x.runs(-1), -1);
        due("29 weight", x.weight(0, 1), 1);
        due("29 weight", x.weight(0, 8), -1);
        due("29 weight", x.weight(0, 9), 2);
        due("29 weight", x.weight(0, 0), BIG);
        due("29 weight", x.weight(1, 1), BIG);
        due("29 weight", x.weight(0, -1), BIG);
        due("29 weight", x.weight(0, 64), BIG);
        due("30 nought", x.nought(0), 0);
        x.reading(0, 7);
        x.reading(1, -2);
        due("30 nought", x.nought(0), 11);
        due("30 nought", x.nought(1), -1000000000000000L);
        due("31 bound", x.bound(0), 0);
        due("31 bound", x.bound(1), -1);
        due("32 rings", x.rings(0), 1);
        due("32 rings", x.rings(1), -1);
        due("33 from", x.from(0, 1), 1);
        due("33 from: no row of it", x.from(0, 0), -2);
        due("33 from", x.from(0, 2), -1);
        due("33 from", x.from(1, 1), -1);
        due("33 from", x.from(0, -1), -1);
        x = Check.of(SAME);
        due("28 runs", x.runs(1), 0);
        due("29 weight", x.weight(1, 0), BIG);
        due("29 weight: a row that names nothing", x.weight(0, 3), 1);
        due("30 nought", x.nought(0), 3);
        due("30 nought", x.nought(1), -1000000000000000L);
        due("31 bound", x.bound(1), -1);
        due("32 rings", x.rings(1), -1);
        due("33 from", x.from(1, 0), -1);
        due("33 from: no row of what can't be run", x.from(1, 1), -1);
        x = Check.of(PIPE);
        due("31 bound", x.bound(0), 3);
        x.reading(0, 3);
        due("32 rings: not above the bound", x.rings(0), 0);
        x.reading(0, 4);
        due("32 rings", x.rings(0), 1);
        x.reading(0, -4);
        due("30 nought", x.nought(0), -4);
        due("32 rings", x.rings(0), 1);
        due("33 from: above twice the bound", x.from(0, 2), 7);
        // The weights of a, b and h are 0: g less c is all.
        x = Check.of("unknown x; unknown y; eq a: + x + y; eq b: + x + y - 4; eq c: + 6 x + 4 y; gauge g of y noise 3;"
                + "fault p in a; fault q in c; fault r in g;");
        due("15 tests", x.tests(), 4);
        due("16 test", x.test(0), 7);
        due("29 weight", x.weight(0, 0), 1);
        due("29 weight", x.weight(0, 1), -1);
        due("29 weight", x.weight(0, 2), 0);
        due("33 from: a weight of 0", x.from(0, 1), -2);
        due("30 nought", x.nought(0), 4);
        due("16 test", x.test(2), 261);
        due("29 weight: no divisor", x.weight(2, 0), 6);
        due("29 weight: no divisor", x.weight(2, 2), -1);
        due("29 weight: no divisor", x.weight(2, 8), -2);
        due("31 bound", x.bound(2), 6);
        due("33 from", x.from(2, 0), 3);
        due("33 from", x.from(2, 1), 13);
        due("33 from", x.from(2, 2), 7);
    }

    private static void odds() {
        GaugeNet x = Check.of(PIPE);
        due("34 odds", x.odds(0, -1, 0, -1), 15);
        due("34 odds", x.odds(0, -1, 0, 0), 12);
        due("34 odds", x.odds(0, -1, 0, 2), 2);
        due("34 odds", x.odds(0, -1, 0, 3), 0);
        due("34 odds", x.odds(0, -1, 5, 3), 0);
        due("34 odds", x.odds(0, 0, 1, 2), 3);
        due("34 odds", x.odds(0, 2, 9999, 3), 15);
        due("34 odds", x.odds(0, 2, -9999, 3), 15);
        due("34 odds", x.odds(0, 2, 10000, 3), -1);
        due("34 odds", x.odds(0, 2, -10000, 3), -1);
        due("34 odds", x.odds(0, -1, 10000, 3), -1);
        due("34 odds", x.odds(0, 3, 0, 3), -1);
        due("34 odds", x.odds(0, -2, 0, 3), -1);
        due("34 odds", x.odds(1, 0, 0, 3), -1);
        due("34 odds", x.odds(0, 0, 0, -2), -1);
        due("34 odds", x.odds(0, 0, 0, Long.MAX_VALUE), 0);
        x.in(2, true);
        due("34 odds: q's row is not in it", x.odds(0, 1, 9999, 1), 0);
        due("34 odds", Check.of(SAME).odds(1, -1, 0, -1), -1);
    }

    private static void sets() {
        GaugeNet x = Check.of(PIPE);
        due("35 sets", x.sets(false), 1);
        due("36 set", x.set(false, 0), 0);
        due("36 set", x.set(true, 0), 0);
        due("36 set", x.set(false, 1), -1);
        due("36 set", x.set(false, -1), -1);
        due("37 look", x.look(), 0);
        x.in(2, true);
        x.reading(0, 9);
        // a, g, k and a, b, g, h ring; b, h, k does not.
        due("35 sets", x.sets(false), 2);
        due("36 set", x.set(false, 0), 1);
        due("36 set", x.set(false, 1), 4);
        due("35 sets: q is in what does not ring", x.sets(true), 2);
        due("37 look", x.look(), 0);
        x.reading(1, 9);
        // a, g, k and b, h, k ring.
        due("35 sets", x.sets(false), 2);
        due("36 set", x.set(false, 0), 3);
        due("36 set", x.set(false, 1), 6);
        due("35 sets: p and r are in what does not ring", x.sets(true), 0);
        due("36 set", x.set(true, 0), -1);
        due("37 look: p is in one of two, q in both", x.look(), 0);
        x = Check.of("eq a: + 1; eq b: + 1; eq c: + 1; fault p in a; fault q in b; fault r in b;");
        due("35 sets: c rings and has no fault", x.sets(false), 0);
        due("36 set", x.set(false, 0), -1);
        due("37 look", x.look(), 0);
        x = Check.of("eq a: + 1; eq b: + 1; eq c: - 1; fault p in a; fault q in b; fault r in b; fault s in c;");
        due("35 sets", x.sets(false), 2);
        due("36 set", x.set(false, 0), 11);
        due("36 set", x.set(false, 1), 13);
        due("37 look: q, which halves them", x.look(), 1);
        x = Check.of("eq a: + 1; eq b: + 1; eq c: - 1; eq d: - 1; fault p in a; fault q in b; fault r in c; fault s in d;");
        due("35 sets: four are too many", x.sets(false), 0);
        due("37 look: no faults", Check.of("eq a: + 1;").look(), -2);
        due("37 look: no faults", new GaugeNet().look(), -2);
        x = Check.of(SAME);
        due("35 sets: what can't be run is not asked", x.sets(true), 1);
        due("36 set", x.set(true, 0), 2);
    }

    private static void hidingAndStill() {
        GaugeNet x = Check.of(PIPE);
        due("38 hide", x.hide(0, 1), 1);
        due("38 hide", x.hide(1, 2), 1);
        due("38 hide", x.hide(0, 0), -1);
        due("38 hide", x.hide(0, 3), -1);
        due("38 hide", x.hide(-1, 0), -1);
        due("39 still", x.still(0), 0);
        due("39 still", x.still(10), 1);
        due("39 still", x.still(2), -1);
        due("39 still", x.still(7), -1);
        due("39 still", x.still(11), -1);
        due("39 still", x.still(-1), -1);
        x.in(2, true);
        due("38 hide", x.hide(0, 1), 0);
        due("38 hide", x.hide(0, 2), 1);
        due("39 still", x.still(0), 1);
        due("39 still", x.still(10), 1);
        x.dead(0, true);
        due("38 hide: only one of them is in tests", x.hide(1, 0), 0);
        x.dead(1, true);
        due("38 hide: none is in tests", x.hide(0, 2), 0);
        x = Check.of("unknown x; gauge g of x; gauge h of x; fault p in g; fault q in g; fault r in h;");
        due("38 hide: one row", x.hide(0, 1), 0);
        due("38 hide", x.hide(1, 2), 1);
        // Two tests have both rows, with other factors.
        x = Check.of("unknown x; unknown y; eq a: + x + y; eq b: + x - y; gauge g of x; gauge h of y; fault p in a; fault q in b;");
        due("38 hide", x.hide(0, 1), 0);
    }

    private static void judging() {
        GaugeNet x = Check.of(PIPE);
        due("40 judged", x.judged(0, 10, 0), 7);
        due("40 judged", x.judged(0, 10, 1), 3);
        due("40 judged", x.judged(0, 10, 2), 0);
        due("40 judged", x.judged(1, 10, 2), 7);
        due("40 judged", x.judged(0, 200, 0), 197);
        due("40 judged", x.judged(0, 1, 1), 1);
        due("40 judged", x.judged(0, 201, 0), -1);
        due("40 judged", x.judged(0, 0, 0), -1);
        due("40 judged", x.judged(0, 1, 3), -1);
        due("40 judged", x.judged(0, 1, -1), -1);
        due("40 judged", x.judged(3, 1, 0), -1);
        due("40 judged", x.judged(-1, 1, 0), -1);
        due("41 mistaken", x.mistaken(1, 4), 1);
        due("41 mistaken: unseen", x.mistaken(1, 3), 0);
        due("41 mistaken: found", x.mistaken(0, 4), 0);
        due("41 mistaken", x.mistaken(2, 9999), 1);
        due("41 mistaken", x.mistaken(2, 10000), -1);
        due("41 mistaken", x.mistaken(2, 0), -1);
        due("41 mistaken", x.mistaken(3, 1), -1);
        due("41 mistaken", x.mistaken(-1, 1), -1);
        x.in(2, true);
        x.reading(0, 500);
        // q: b, h, k from 3 on, then a, b, g, h too from 4 on; both have b alone of faults ahead of r.
        due("40 judged without the readings", x.judged(1, 10, 0), 8);
        due("40 judged", x.judged(1, 10, 1), 2);
        x.dead(0, true);
        x.dead(1, true);
        due("40 judged", x.judged(0, 200, 1), 200);
        due("41 mistaken", x.mistaken(0, 9999), 0);
    }

    private static void counts() {
        GaugeNet x = Check.of(PIPE);
        x.position(3);
        x.dead(2, true);
        int[] counts = {3, 2, 3, 3, 3, 3, 4, 0, -1, -1, 0, 1, 8, -1};
        for (int what = 0; what < counts.length; what++) {
            due("42 count " + what, x.count(what), counts[what]);
        }
        Check.feed(x, "unknown y;");
        due("42 count", x.count(7), 10);
        due("42 count", x.count(-1), -1);
        due("42 count", x.count(Integer.MAX_VALUE), -1);
        due("42 count", x.count(Integer.MIN_VALUE), -1);
    }

    /** All ROWS that can be, each EQ naming all UNKNOWNS: signs of a Hadamard matrix, and numbers up to 9. */
    private static String fullText(int unknowns) {
        StringBuilder s = new StringBuilder();
        for (int u = 0; u < unknowns; u++) {
            s.append("unknown ").append((char) ('a' + u)).append(';');
        }
        for (int e = 0; e < 8; e++) {
            s.append("eq e").append((char) ('a' + e)).append(':');
            for (int u = 0; u < unknowns; u++) {
                int number = 9 - (e * 5 + u * 3 + e * u) % 3;
                s.append(Integer.bitCount(e & u + 1) % 2 == 0 ? "+" : "-").append(number).append((char) ('a' + u));
            }
            s.append(e % 2 == 0 ? "+999;" : "-999;");
        }
        for (int g = 0; g < 6; g++) {
            s.append("gauge g").append((char) ('a' + g)).append(" of ").append((char) ('a' + g)).append(" noise 3;");
        }
        for (int f = 0; f < 8; f++) {
            s.append("fault f").append((char) ('a' + f)).append(" in ").append(f < 5 ? "e" : "g").append((char) ('a' + f % 5)).append(';');
        }
        return s.toString();
    }

    /** The greatest WEIGHTS that can be. */
    private static void worst() {
        askAllTests(fullText(7), 3003);
    }

    /** The most TESTS that can be: each seven of the fourteen ROWS. */
    private static void crowded() {
        askAllTests(fullText(6), 3432);
        GaugeNet x = Check.of(fullText(6));
        due("16 test", x.test(0), 127);
        due("16 test", x.test(3002), 13708);
        due("16 test", x.test(3003), 13713);
        due("16 test", x.test(3431), 16256);
        due("16 test", x.test(3432), -1);
        due("28 runs", x.runs(3431), 1);
        due("28 runs", x.runs(3432), -1);
        due("17 parts: fa in ea, fb in eb", x.parts(0, 1), 6);
        due("39 still", x.still(0), 1716);
        due("39 still", x.still(13), 1716);
        x.dead(0, true);
        due("15 tests", x.tests(), 1716);
        x.dead(0, false);
        due("15 tests", x.tests(), 3432);
    }

    private static void askAllTests(String text, int tests) {
        Oracle o = new Oracle();
        o.tape = text;
        due("read", o.read(), 0);
        GaugeNet x = Check.of(text);
        due("all tests", x.tests(), tests);
        for (int k = 0; k < tests; k++) {
            // An object answers for 512 calls.
            x = k % 60 == 59 ? Check.of(text) : x;
            int row = k % 14;
            due("all: test", x.test(k), o.test(k));
            due("all: nought", x.nought(k), o.nought(k));
            due("all: bound", x.bound(k), o.bound(k));
            due("all: from", x.from(k, k % 8), o.from(k, k % 8));
            due("all: weight", x.weight(k, row), o.weight(k, row));
            due("all: ring", x.ring(k, row), o.ring(k, row));
        }
        x = Check.of(text);
        for (int f = 0; f < 8; f++) {
            for (int g = 0; g < 8; g++) {
                due("all: hide", x.hide(f, g), o.hide(f, g));
                due("all: parts", x.parts(f, g), o.parts(f, g));
            }
            due("all: judged", x.judged(f, 2, f % 3), o.judged(f, 2, f % 3));
            due("all: still", x.still(f), o.still(f));
        }
        due("all: sets", x.sets(false), o.sets(false));
        due("all: look", x.look(), o.look());
        due("all: adding", x.adding(true), o.adding(true));
    }

    /** TESTS that are the last ones of all ROWS told, in a net that has few of them. */
    private static void lateTests() {
        StringBuilder s = new StringBuilder("unknown a;unknown b;unknown c;unknown d;unknown e;unknown f;");
        String[] names = {"p", "q", "r", "s", "t", "u", "v", "w"};
        for (int e = 0; e < 8; e++) {
            s.append("eq ").append(names[e]).append(e == 0 ? " in 0,1" : e == 1 ? " in 0,2,1" : " in 0");
            s.append(":+a+b+c+d+e+").append(e + 1).append("f;");
        }
        for (int g = 0; g < 6; g++) {
            char of = (char) ('a' + g);
            s.append("gauge g").append(of).append(" of ").append(of).append(" noise 1;");
        }
        s.append("fault x in q;fault y in gf;fault z in p;");
        GaugeNet x = Check.of(s.toString());
        due("15 tests", x.tests(), 3432);
        due("6 position", x.position(2), true);
        due("15 tests", x.tests(), 1);
        due("16 test", x.test(0), 16130);
        due("17 parts", x.parts(0, 2), 0);
        due("17 parts", x.parts(0, 1), -2);
        due("27 ring", x.ring(0, 1), 0);
        due("25 uses", x.uses(0, 1), 6);
        due("28 runs", x.runs(0), 1);
        due("29 weight", x.weight(0, 1), 1);
        due("29 weight", x.weight(0, 8), -1);
        due("29 weight", x.weight(0, 13), -2);
        due("31 bound", x.bound(0), 7);
        due("32 rings", x.rings(0), 0);
        due("33 from", x.from(0, 0), 15);
        due("33 from", x.from(0, 1), 8);
        due("34 odds", x.odds(0, -1, 0, -1), 729);
        due("34 odds", x.odds(0, -1, 0, 6), 2);
        due("35 sets", x.sets(false), 1);
        due("36 set", x.set(false, 0), 0);
        due("9 reading", x.reading(0, 8), true);
        due("30 nought", x.nought(0), 8);
        due("32 rings", x.rings(0), 1);
        due("35 sets", x.sets(false), 2);
        due("36 set", x.set(false, 0), 1);
        due("36 set", x.set(false, 1), 2);
        due("37 look", x.look(), 0);
        due("38 hide", x.hide(0, 1), 1);
        due("39 still", x.still(0), 1);
        due("39 still", x.still(1), 0);
        due("40 judged: found", x.judged(0, 10, 0), 3);
        due("40 judged: unseen", x.judged(1, 10, 1), 3);
        due("41 mistaken", x.mistaken(1, 4), 1);
        due("6 position", x.position(1), true);
        due("15 tests: each seven of eight rows", x.tests(), 8);
    }
}
