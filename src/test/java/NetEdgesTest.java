/** Each sentence on THE NET that names an edge has a test of its own here (II, promises 6 to 9, 11 to 24, 39 and 42). */
public final class NetEdgesTest {
    private static final int[] NO_INDEX = {-1, -2, -32, 32, 33, 64, 256, 1 << 16, 1 << 30, Integer.MAX_VALUE, Integer.MIN_VALUE};
    /** p is a's, q is b's: with g and h each of a, b, g, h is MORE, but only k parts a from b. */
    private static final String PIPE = "unknown x;unknown y;unknown z;eq a:+x-y;eq b:+y-z;"
            + "gauge g of x cost 3;gauge h of z;maybe k of y cost 5;fault p in a;fault q in b;fault r in g;";

    public static void main(String[] args) {
        changes();
        net();
        kinds();
        tests();
        orderOfTests();
        parts();
        seenAndParted();
        told();
        adding();
        addingSpare();
        taking();
        positions();
        costs();
        still();
        counts();
        Check.end();
    }

    private static void due(String call, long got, long want) {
        Check.due(call, got, want);
    }

    private static void due(String call, boolean got, boolean want) {
        Check.due(call, got, want);
    }

    private static String unknowns(int n) {
        String s = "";
        for (int u = 0; u < n; u++) {
            s += "unknown " + (char) ('a' + u) + ";";
        }
        return s;
    }

    private static String gauges(int n, String of) {
        String s = "";
        for (int g = 0; g < n; g++) {
            s += "gauge g" + (char) ('a' + g) + " of " + of + ";";
        }
        return s;
    }

    private static void changes() {
        Check.holds("6: the POSITION becomes p: each of 0 .. 3; false: not 0 .. 3, and it stays", () -> {
            GaugeNet x = Check.of("eq a in 3:+1;eq b in 0:+1;");
            for (int p = 3; p >= 0; p--) {
                due("position", x.position(p), true);
                due("count", x.count(4), p);
                int[] none = {-1, 4, 5, 7, 32, 35, 256, Integer.MAX_VALUE, Integer.MIN_VALUE};
                for (int q : none) {
                    due("position", x.position(q), false);
                    due("count", x.count(4), p);
                    due("net", x.net(), p == 3 ? 1 : p == 0 ? 2 : 0);
                }
            }
        });
        Check.holds("6: a POSITION without a text", () -> {
            GaugeNet x = new GaugeNet();
            due("position", x.position(3), true);
            due("count", x.count(4), 3);
            due("read", Check.read(x, "eq a in 0:+1;"), 0);
            due("net", x.net(), 1);
        });
        for (int gauges = 0; gauges <= 6; gauges++) {
            int n = gauges;
            Check.holds("7, 8, 9: false: no such GAUGE, and nothing changes, of " + n, () -> {
                GaugeNet x = Check.of("unknown u;" + gauges(n, "u"));
                int in = x.count(5);
                due("count", in, (1 << n) - 1);
                for (int g : NO_INDEX) {
                    refuse(x, g);
                }
                refuse(x, n);
                refuse(x, n + 1);
                refuse(x, n + 8);
                due("in", x.count(5), in);
                due("dead", x.count(6), 0);
                due("net", x.net(), in << 8);
                for (int g = 0; g < n; g++) {
                    due("in", x.in(g, false), true);
                    due("dead", x.dead(g, true), true);
                    due("reading", x.reading(g, 1), true);
                }
                due("in", x.count(5), 0);
                due("dead", x.count(6), in);
            });
        }
        Check.holds("7, 8: what is so already stays so", () -> {
            GaugeNet x = Check.of("unknown u;gauge g of u;maybe h of u;");
            due("in", x.in(0, true), true);
            due("in", x.in(1, false), true);
            due("dead", x.dead(0, false), true);
            due("in", x.count(5), 1);
            due("dead", x.count(6), 0);
            x.dead(1, true);
            due("dead", x.dead(1, true), true);
            due("dead", x.count(6), 2);
            due("a DEAD one that is not IN", x.in(1, true), true);
            due("net", x.net(), 256);
        });
        Check.holds("9: READING -9999 .. 9999; false: no such ones, and it stays", () -> {
            GaugeNet x = Check.of("unknown u;gauge g of u;gauge h of u;");
            int[] right = {9999, -9999, 0};
            int[] wrong = {10000, -10000, 9999 + 65536, Integer.MAX_VALUE, Integer.MIN_VALUE};
            for (int v : right) {
                due("reading", x.reading(1, v), true);
                // h has the WEIGHT -1 in the one TEST of both.
                due("nought", x.nought(0), v);
                for (int w : wrong) {
                    due("reading", x.reading(1, w), false);
                    due("nought", x.nought(0), v);
                }
            }
            due("reading", x.reading(0, 9999), true);
            due("reading", x.reading(1, -9999), true);
            due("nought", x.nought(0), -19998);
        });
    }

    private static void refuse(GaugeNet x, int gauge) {
        due("in " + gauge, x.in(gauge, false), false);
        due("in " + gauge, x.in(gauge, true), false);
        due("dead " + gauge, x.dead(gauge, true), false);
        due("dead " + gauge, x.dead(gauge, false), false);
        due("reading " + gauge, x.reading(gauge, 0), false);
    }

    private static void net() {
        Check.holds("11: ROWS: an EQ k is k, a GAUGE g is 8 + g; all that there can be", () -> {
            String s = unknowns(7);
            for (int e = 0; e < 8; e++) {
                s += "eq e" + (char) ('a' + e) + (e % 2 == 0 ? ":" : " in 1:") + "+a;";
            }
            GaugeNet x = Check.of(s + gauges(6, "b"));
            due("net", x.net(), 0x3f55);
            x.position(1);
            due("net", x.net(), 0x3fff);
            x.position(2);
            x.dead(5, true);
            x.in(0, false);
            due("net", x.net(), 0x1e55);
        });
        Check.holds("11: GAUGES that are IN and not DEAD", () -> {
            GaugeNet x = Check.of("unknown u;gauge g of u;maybe h of u;");
            due("net", x.net(), 256);
            x.in(1, true);
            due("net", x.net(), 768);
            x.dead(1, true);
            due("net", x.net(), 256);
            x.in(1, false);
            due("net", x.net(), 256);
            x.dead(1, false);
            due("net", x.net(), 256);
            x.in(0, false);
            due("net: empty", x.net(), 0);
        });
        Check.holds("12: no PAIRS without ROWS, without UNKNOWNS, without an UNKNOWN that a ROW HAS", () -> {
            due("pairs", new GaugeNet().pairs(), 0);
            due("pairs", Check.of("unknown a;unknown b;").pairs(), 0);
            due("pairs", Check.of("eq a:+1;eq b:-1;").pairs(), 0);
            due("pairs", Check.of("unknown u;eq a:+1;eq b:-1;").pairs(), 0);
        });
        Check.holds("12: no UNKNOWN twice: as many PAIRS as UNKNOWNS at most", () -> {
            String s = unknowns(7);
            for (int e = 0; e < 8; e++) {
                s += "eq e" + (char) ('a' + e) + ":+a+b+c+d+e+f+g;";
            }
            due("pairs", Check.of(s + gauges(6, "a")).pairs(), 7);
            due("pairs", Check.of("unknown u;" + gauges(6, "u")).pairs(), 1);
        });
        Check.holds("12: each ROW with one UNKNOWN: as many PAIRS as ROWS at most", () -> {
            GaugeNet x = Check.of(unknowns(7) + "eq p:+a+b+c+d+e+f+g;gauge h of a;");
            due("pairs", x.pairs(), 2);
            x.in(0, false);
            due("pairs", x.pairs(), 1);
        });
        Check.holds("12: as many as can be: another ROW may have to give way", () -> {
            due("pairs", Check.of(unknowns(3) + "eq p:+a+b;eq q:+a;eq r:+b+c;").pairs(), 3);
            due("pairs", Check.of(unknowns(3) + "eq p:+a+b+c;eq q:+a;eq r:+a;").pairs(), 2);
        });
    }

    private static void kinds() {
        Check.holds("13: NONE: it is not in THE NET", () -> {
            GaugeNet x = Check.of("unknown u;eq a in 1:+u;eq b:+u;gauge g of u;maybe h of u;gauge i of u;");
            x.dead(2, true);
            int[] due = {-1, 2, -1, -1, -1, -1, -1, -1, 2, -1, -1, -1, -1, -1, -1};
            for (int row = 0; row < due.length; row++) {
                due("row " + row, x.row(row), due[row]);
            }
            for (int row : NO_INDEX) {
                due("row " + row, x.row(row), -1);
            }
            due("row: bit 8 of another word", x.row(40), -1);
        });
        Check.holds("14: NONE: no such UNKNOWN", () -> {
            for (int n = 0; n <= 7; n++) {
                GaugeNet x = Check.of(unknowns(n));
                for (int u = 0; u < n; u++) {
                    due("unknown " + u, x.unknown(u), 0);
                }
                due("unknown " + n, x.unknown(n), -1);
                for (int u : NO_INDEX) {
                    due("unknown " + u, x.unknown(u), -1);
                }
            }
        });
        Check.holds("A ROW is MORE, if without it there are as many PAIRS: one that HAS no UNKNOWN", () -> {
            GaugeNet x = Check.of("unknown u;eq a:+1;eq b:+u;");
            due("row", x.row(0), 2);
            due("row", x.row(1), 1);
            due("unknown", x.unknown(0), 1);
        });
        Check.holds("A ROW is LITTLE, if it HAS an UNKNOWN without which there are as many PAIRS", () -> {
            GaugeNet x = Check.of(unknowns(4) + "eq p:+a+b;eq q:+a;eq r:+c+d;");
            due("row: b is needed", x.row(0), 1);
            due("row", x.row(1), 1);
            due("row", x.row(2), 0);
            due("unknown", x.unknown(0), 1);
            due("unknown", x.unknown(1), 1);
            due("unknown", x.unknown(2), 0);
            due("unknown", x.unknown(3), 0);
        });
        Check.holds("else JUST: as many ROWS as UNKNOWNS, all of them paired", () -> {
            GaugeNet x = Check.of(unknowns(7) + "eq p:+a+b;eq q:+b+c;eq r:+c+d;eq s:+d+e;eq t:+e+f;eq u:+f+g;gauge h of g;");
            for (int row = 0; row < 6; row++) {
                due("row", x.row(row), 1);
            }
            due("row", x.row(8), 1);
            for (int u = 0; u < 7; u++) {
                due("unknown", x.unknown(u), 1);
            }
            x.in(0, false);
            for (int u = 0; u < 7; u++) {
                due("row", x.row(u), u < 6 ? 0 : -1);
                due("unknown", x.unknown(u), 0);
            }
        });
        Check.holds("An UNKNOWN is MORE, if a ROW that is MORE HAS it", () -> {
            GaugeNet x = Check.of(unknowns(3) + "gauge g of a;gauge h of a;eq p:+a+b;eq q:+b+c;");
            due("unknown", x.unknown(0), 2);
            due("unknown: p and q are JUST", x.unknown(1), 1);
            due("unknown", x.unknown(2), 1);
            due("row", x.row(8), 2);
            due("row", x.row(9), 2);
        });
        Check.holds("An UNKNOWN that no ROW HAS is LITTLE", () -> {
            GaugeNet x = Check.of("unknown a;unknown b;eq p:+a;");
            due("unknown", x.unknown(0), 1);
            due("unknown", x.unknown(1), 0);
            due("without ROWS", Check.of("unknown a;").unknown(0), 0);
        });
    }

    private static void tests() {
        Check.holds("15, 16: no TESTS; NONE: no such one", () -> {
            GaugeNet x = Check.of("unknown u;gauge g of u;");
            due("tests", x.tests(), 0);
            due("test", x.test(0), -1);
            for (int k : NO_INDEX) {
                due("test " + k, x.test(k), -1);
            }
        });
        Check.holds("16: the last TEST is one behind none, and what is behind it is NONE", () -> {
            GaugeNet x = Check.of("unknown u;" + gauges(6, "u"));
            due("tests", x.tests(), 15);
            due("test", x.test(14), 3 << 12);
            due("test", x.test(15), -1);
            for (int k : NO_INDEX) {
                due("test " + k, x.test(k), -1);
            }
        });
        Check.holds("A TEST: a ROW without UNKNOWNS alone, and in no other TEST", () -> {
            GaugeNet x = Check.of("unknown u;eq a:+1;eq b:+u;gauge g of u;");
            due("tests", x.tests(), 2);
            due("test", x.test(0), 1);
            due("test", x.test(1), 258);
        });
        Check.holds("A TEST: eight ROWS of seven UNKNOWNS, the most there can be", () -> {
            String s = unknowns(7) + "eq p:+a+b;eq q:+b+c;eq r:+c+d;eq s:+d+e;eq t:+e+f;eq u:+f+g;gauge h of g;gauge i of a;";
            GaugeNet x = Check.of(s);
            due("tests", x.tests(), 1);
            due("test", x.test(0), 0x33f);
            x.dead(1, true);
            due("tests", x.tests(), 0);
        });
        Check.holds("A TEST has more ROWS than they HAVE UNKNOWNS, while no set of fewer of its ROWS has", () -> {
            GaugeNet x = Check.of("unknown a;unknown b;eq p:+a+b;eq q:+a+b;eq r:+a+b;eq s:+a;");
            due("tests", x.tests(), 4);
            due("test", x.test(0), 7);
            due("test", x.test(1), 11);
            due("test", x.test(2), 13);
            due("test", x.test(3), 14);
            x = Check.of("unknown a;unknown b;eq p:+a;eq q:+a;eq r:+a+b;");
            due("tests", x.tests(), 1);
            due("test", x.test(0), 3);
        });
        Check.holds("TESTS are of THE NET: they go and come with its ROWS", () -> {
            GaugeNet x = Check.of("unknown u;eq a in 0:+u;eq b in 1:+u;gauge g of u;maybe h of u;");
            due("test", x.test(0), 257);
            due("tests", x.tests(), 1);
            x.position(1);
            due("test", x.test(0), 258);
            x.position(2);
            due("tests", x.tests(), 0);
            x.in(1, true);
            due("test", x.test(0), 768);
            x.dead(0, true);
            due("tests", x.tests(), 0);
            x.position(0);
            due("test", x.test(0), 513);
        });
    }

    private static void orderOfTests() {
        Check.holds("TESTS are numbered from 0 on by how many ROWS they have, then by bits", () -> {
            GaugeNet x = Check.of("unknown a;unknown b;eq p:+a+b;eq q:+a+b;eq r:+5;gauge g of a;gauge h of a;gauge i of b;eq s:-5;");
            int[] due = {4, 8, 3 << 8, 3 | 1 << 8, 3 | 1 << 9, 3 | 1 << 10, 1 | 1 << 8 | 1 << 10, 1 | 1 << 9 | 1 << 10,
                2 | 1 << 8 | 1 << 10, 2 | 1 << 9 | 1 << 10};
            java.util.Arrays.sort(due, 3, due.length);
            due("tests", x.tests(), due.length);
            for (int k = 0; k < due.length; k++) {
                due("test " + k, x.test(k), due[k]);
            }
        });
        Check.holds("15: as many TESTS as fourteen ROWS can have", () -> {
            String s = unknowns(6);
            for (int e = 0; e < 8; e++) {
                s += "eq e" + (char) ('a' + e) + ":+a+b+c+d+e+f;";
            }
            for (int g = 0; g < 6; g++) {
                s += "gauge g" + (char) ('a' + g) + " of " + (char) ('a' + g) + ";";
            }
            GaugeNet x = Check.of(s);
            due("tests", x.tests(), 3432);
            due("test", x.test(3431), 0x3f80);
            due("test", x.test(3432), -1);
            due("runs", x.runs(0), 0);
            due("runs", x.runs(3431), 1);
        });
    }

    private static void parts() {
        Check.holds("17: -2: none", () -> {
            GaugeNet x = Check.of(PIPE);
            due("parts: both are in the one TEST", x.parts(0, 1), -2);
            due("parts: no TESTS", Check.of("eq a in 1:+1;eq b:+1;fault p in a;fault q in b;").parts(0, 1), -2);
            x.in(0, false);
            due("parts: no TESTS", x.parts(0, 1), -2);
            due("parts: a ROW that is not in THE NET", x.parts(2, 0), -2);
        });
        Check.holds("17: -2 of two FAULTS of one ROW, and of one FAULT twice", () -> {
            GaugeNet x = Check.of("eq a:+1;fault p in a;fault q in a;");
            due("parts", x.parts(0, 1), -2);
            due("parts", x.parts(1, 0), -2);
            due("parts", x.parts(0, 0), -2);
        });
        Check.holds("17: the first TEST is 0; that of a ROW that is not in THE NET parts all", () -> {
            GaugeNet x = Check.of("eq a:+1;eq b in 1:+1;fault p in a;fault q in b;");
            due("parts", x.parts(0, 1), 0);
            due("parts", x.parts(1, 0), -2);
            x.position(1);
            due("parts", x.parts(1, 0), 1);
        });
        Check.holds("17: NONE: no such FAULTS, also where -2 could be told", () -> {
            GaugeNet x = Check.of(PIPE);
            for (int f : NO_INDEX) {
                due("parts " + f, x.parts(f, 0), -1);
                due("parts " + f, x.parts(0, f), -1);
                due("parts " + f, x.parts(f, f), -1);
            }
            due("parts", x.parts(3, 0), -1);
            due("parts", x.parts(0, 3), -1);
            due("parts", Check.of("eq a:+1;").parts(0, 0), -1);
        });
    }

    private static void seenAndParted() {
        Check.holds("18: NONE: no such one", () -> {
            GaugeNet x = Check.of(PIPE);
            for (int f : NO_INDEX) {
                due("seen " + f, x.seen(f), -1);
            }
            due("seen", x.seen(2), 1);
            due("seen", x.seen(3), -1);
        });
        Check.holds("19: NONE: no such ones, one and the same", () -> {
            GaugeNet x = Check.of(PIPE);
            for (int f : NO_INDEX) {
                due("parted " + f, x.parted(f, 0), -1);
                due("parted " + f, x.parted(0, f), -1);
                due("parted " + f, x.parted(f, f), -1);
            }
            due("parted", x.parted(3, 0), -1);
            due("parted", x.parted(0, 3), -1);
            for (int f = 0; f < 3; f++) {
                due("parted", x.parted(f, f), -1);
            }
        });
        Check.holds("A FAULT whose ROW is not in THE NET is not SEEN, and PARTED from none", () -> {
            GaugeNet x = Check.of("unknown u;eq a in 1:+u;maybe g of u;gauge h of u;gauge i of u;gauge k of u;"
                    + "fault p in a;fault q in g;fault r in h;");
            x.dead(1, true);
            for (int f = 0; f < 3; f++) {
                due("seen " + f, x.seen(f), 0);
                due("parted " + f, x.parted(f, (f + 1) % 3), 0);
            }
            x.dead(1, false);
            due("seen", x.seen(2), 1);
        });
        Check.holds("A FAULT whose ROW is the other one's is SEEN, but not PARTED from it", () -> {
            GaugeNet x = Check.of("unknown u;gauge h of u;gauge i of u;gauge k of u;fault p in h;fault q in h;fault r in i;");
            due("seen", x.seen(0), 1);
            due("seen", x.seen(1), 1);
            due("parted", x.parted(0, 1), 0);
            due("parted", x.parted(1, 0), 0);
            due("parted", x.parted(0, 2), 1);
            due("parted", x.parted(2, 1), 1);
        });
        Check.holds("THE NET without a ROW that it has not is as it is", () -> {
            GaugeNet x = Check.of("unknown u;eq a in 1:+u;gauge h of u;gauge i of u;fault p in a;fault q in h;");
            due("parted", x.parted(1, 0), 1);
            x.position(1);
            due("parted: i is left", x.parted(1, 0), 1);
            x.dead(1, true);
            due("parted: none is left", x.parted(1, 0), 0);
            x.position(0);
            due("parted: h is alone", x.parted(1, 0), 0);
            due("seen", x.seen(1), 0);
        });
    }

    private static void told() {
        Check.holds("20: POSITIONS (bits, 1 .. 15); NONE: no such ones", () -> {
            GaugeNet x = Check.of("eq a in 0:+1;");
            for (int p = 1; p <= 15; p++) {
                due("told " + p, x.told(p), 1);
            }
            int[] none = {0, -1, 16, 17, 31, 32, 33, 256 | 1, 1 << 31 | 1, Integer.MAX_VALUE, Integer.MIN_VALUE};
            for (int p : none) {
                due("told " + p, x.told(p), -1);
            }
        });
        Check.holds("ALL IS TOLD without FAULTS, and of one FAULT if it is SEEN in some", () -> {
            GaugeNet x = Check.of("unknown u;eq a in 0:+u;eq b in 3:+u;gauge g of u;fault p in b;");
            for (int p = 1; p <= 15; p++) {
                due("told " + p, x.told(p), p >= 8 ? 1 : 0);
            }
        });
        Check.holds("ALL IS TOLD never of two FAULTS of one ROW", () -> {
            GaugeNet x = Check.of("eq a:+1;fault p in a;fault q in a;");
            due("told", x.told(15), 0);
            due("positions", x.positions(), -2);
            due("adding", x.adding(false), -2);
            due("adding", x.adding(true), -2);
        });
        Check.holds("each is PARTED from each other one in some, not of all in one", () -> {
            GaugeNet x = Check.of("unknown u;eq a in 0,2:+u;eq b in 1,2:+u;gauge g of u;fault p in a;fault q in b;fault r in g;");
            // There are in 0 a and g, in 1 b and g, in 2 a, b and g.
            due("told 1", x.told(1), 0);
            due("told 2", x.told(2), 0);
            due("told 3: p and q are never parted from r", x.told(3), 0);
            due("told 4", x.told(4), 1);
            due("told 7", x.told(7), 1);
            due("positions", x.positions(), 4);
        });
        Check.holds("each is PARTED from each other one: of two both ways", () -> {
            // In 0 a alone is SEEN of both, in 1 both are, but not PARTED: b is PARTED from a in none.
            String s = "unknown u;eq a:+u;eq b in 1:+u;eq c in 0:+u;";
            String[] orders = {"fault p in a;fault q in b;", "fault q in b;fault p in a;"};
            for (String order : orders) {
                GaugeNet x = Check.of(s + order);
                due("told", x.told(3), 0);
                due("positions", x.positions(), -2);
                boolean first = order.startsWith("fault p");
                due("parted", x.parted(first ? 0 : 1, first ? 1 : 0), 1);
                due("parted", x.parted(first ? 1 : 0, first ? 0 : 1), 0);
                x.position(1);
                due("parted", x.parted(0, 1), 0);
                due("parted", x.parted(1, 0), 0);
                due("seen", x.seen(0), 1);
                due("seen", x.seen(1), 1);
                due("adding", x.adding(false), -2);
            }
        });
        Check.holds("20: by the POSITIONS asked, not by the one that is told; with GAUGES as they are", () -> {
            GaugeNet x = Check.of("unknown u;eq a in 1:+u;gauge g of u;fault p in a;");
            due("told", x.told(1), 0);
            due("told", x.told(2), 1);
            x.position(1);
            due("told", x.told(1), 0);
            due("told", x.told(2), 1);
            x.dead(0, true);
            due("told", x.told(2), 0);
        });
    }

    private static void adding() {
        Check.holds("21: none are needed: 0", () -> {
            due("adding", Check.of("eq a:+1;fault p in a;").adding(false), 0);
            due("adding", Check.of("unknown u;maybe g of u;").adding(false), 0);
            due("adding", Check.of("unknown u;maybe g of u;").adding(true), 0);
        });
        Check.holds("21: -2: none", () -> {
            due("adding", Check.of("unknown u;eq a:+u;fault p in a;").adding(false), -2);
            due("adding", Check.of("unknown u;unknown v;eq a:+u+v;maybe g of u;fault p in a;").adding(false), -2);
        });
        Check.holds("ADDING: GAUGES not IN, nor DEAD", () -> {
            GaugeNet x = Check.of("unknown u;eq a:+u;maybe g of u;maybe h of u cost 2;fault p in a;");
            due("adding", x.adding(false), 1);
            x.dead(0, true);
            due("adding: g is DEAD", x.adding(false), 2);
            x.dead(1, true);
            due("adding: both are DEAD", x.adding(false), -2);
            x.in(1, true);
            due("adding: IN but DEAD", x.adding(false), -2);
            x.dead(1, false);
            due("adding: IN", x.adding(false), 0);
        });
        Check.holds("ADDING: by the POSITION that is told", () -> {
            GaugeNet x = Check.of("unknown u;eq a in 3:+u;maybe g of u;fault p in a;");
            due("adding", x.adding(false), -2);
            x.position(3);
            due("adding", x.adding(false), 1);
        });
        String way = "unknown x;unknown y;unknown z;eq e:+x;eq d:+x+y+z;fault p in e;";
        Check.holds("ADDING: the least sum of COSTS, of two if they are cheaper", () -> {
            due("adding", Check.of(way + "maybe a of x cost 10;maybe b of y cost 4;maybe c of z cost 5;").adding(false), 6);
            due("adding", Check.of(way + "maybe a of x cost 8;maybe b of y cost 4;maybe c of z cost 5;").adding(false), 1);
            due("adding", Check.of(way + "maybe a of x cost 100;maybe b of y;maybe c of z cost 99;").adding(false), 1);
        });
        Check.holds("ADDING: of these the least bits", () -> {
            due("adding", Check.of(way + "maybe a of x cost 9;maybe b of y cost 4;maybe c of z cost 5;").adding(false), 1);
            due("adding", Check.of(way + "maybe b of y cost 4;maybe c of z cost 5;maybe a of x cost 9;").adding(false), 3);
        });
        Check.holds("ADDING: all six", () -> {
            String s = unknowns(6) + "eq q:+a+b+c+d+e+f;fault p in q;";
            for (char c = 'a'; c <= 'f'; c++) {
                s += "maybe g" + c + " of " + c + ";";
            }
            due("adding", Check.of(s).adding(false), 63);
        });
    }

    private static void addingSpare() {
        Check.holds("with spare: if any one GAUGE that is IN then were DEAD", () -> {
            GaugeNet x = Check.of("unknown u;eq a:+u;gauge g of u;maybe h of u cost 7;maybe i of u cost 3;fault p in a;");
            due("adding", x.adding(false), 0);
            due("adding", x.adding(true), 4);
            x.dead(2, true);
            due("adding", x.adding(true), 2);
            x.dead(1, true);
            due("adding", x.adding(true), -2);
        });
        Check.holds("with spare: of GAUGES that are added, too", () -> {
            GaugeNet x = Check.of("unknown u;eq a:+u;maybe g of u;maybe h of u;maybe i of u;fault p in a;");
            due("adding", x.adding(false), 1);
            due("adding", x.adding(true), 3);
        });
        Check.holds("with spare: not of one that is DEAD already", () -> {
            GaugeNet x = Check.of("unknown u;eq a:+u;eq b:+u;gauge g of u;fault p in a;");
            due("adding", x.adding(true), 0);
            x.dead(0, true);
            due("adding", x.adding(true), 0);
        });
        Check.holds("with spare: as it is, ALL must be TOLD, too", () -> {
            GaugeNet x = Check.of("unknown u;eq a:+u;maybe g of u;fault p in a;");
            due("adding", x.adding(true), -2);
        });
        Check.holds("with spare: for FAULTS with another ROW than it", () -> {
            GaugeNet x = Check.of("unknown u;gauge g of u;gauge h of u;fault p in g;");
            due("adding: with h DEAD p is not SEEN", x.adding(true), -2);
            x = Check.of("unknown u;gauge g of u;gauge h of u;maybe i of u;fault p in g;");
            due("adding: with g DEAD there is no FAULT to tell", x.adding(true), 4);
            x = Check.of("unknown u;unknown v;eq a:+v;eq b:+v;gauge g of u;maybe h of u;fault p in g;fault q in a;");
            due("adding", x.adding(false), 2);
            due("adding: with h DEAD p is not SEEN", x.adding(true), -2);
        });
    }

    private static void taking() {
        Check.holds("22: none that are IN: 0", () -> {
            due("taking", new GaugeNet().taking(), 0);
            due("taking", Check.of("unknown u;maybe g of u;maybe h of u;").taking(), 0);
        });
        Check.holds("22: without FAULTS all that are IN, not DEAD", () -> {
            GaugeNet x = Check.of("unknown u;gauge g of u;maybe h of u;gauge i of u;gauge k of u;gauge l of u;gauge m of u;");
            due("taking", x.taking(), 61);
            x.dead(2, true);
            due("taking: not the DEAD one", x.taking(), 57);
            x.in(0, false);
            due("taking", x.taking(), 56);
        });
        Check.holds("TAKING: each FAULT with another ROW that is SEEN stays SEEN", () -> {
            GaugeNet x = Check.of("unknown u;eq a:+u;gauge g of u cost 2;gauge h of u cost 3;gauge i of u;fault p in a;");
            due("taking: the cheapest stays", x.taking(), 3);
            x.dead(2, true);
            due("taking: g stays", x.taking(), 2);
            x.dead(1, true);
            due("taking: none", x.taking(), 0);
            x.dead(0, true);
            due("taking: none is IN", x.taking(), 0);
        });
        Check.holds("TAKING: a FAULT that is not SEEN keeps none", () -> {
            due("taking", Check.of("unknown u;unknown v;eq a:+u+v;gauge g of u;fault p in a;").taking(), 1);
            due("taking", Check.of("unknown u;eq a in 1:+u;gauge g of u;gauge h of u;fault p in a;").taking(), 3);
        });
        Check.holds("TAKING: each two such stay PARTED as they are", () -> {
            GaugeNet x = Check.of("unknown u;eq a:+u;eq b:+u;gauge g of u;gauge h of u;fault p in a;fault q in b;");
            due("taking: one stays, or a and b would not be PARTED", x.taking(), 1);
            x = Check.of("unknown u;eq a:+u;eq b:+u;gauge g of u;gauge h of u;fault p in a;");
            due("taking: one FAULT stays SEEN by b", x.taking(), 3);
        });
        Check.holds("TAKING: FAULTS of the GAUGES that are taken keep none", () -> {
            due("taking", Check.of("unknown u;gauge g of u;gauge h of u;fault p in g;fault q in h;").taking(), 3);
            due("taking: g can't go, h can't, both can", Check.of("unknown u;eq a in 1:+u;gauge g of u;gauge h of u;"
                    + "fault p in g;fault q in h;fault r in a;").taking(), 3);
        });
        Check.holds("TAKING: the greatest sum of COSTS; of these the least bits", () -> {
            due("taking", Check.of("unknown u;eq a:+u;gauge g of u cost 100;gauge h of u cost 99;fault p in a;").taking(), 1);
            due("taking", Check.of("unknown u;eq a:+u;gauge g of u cost 99;gauge h of u cost 100;fault p in a;").taking(), 2);
            due("taking", Check.of("unknown u;eq a:+u;gauge g of u cost 5;gauge h of u cost 5;fault p in a;").taking(), 1);
        });
        Check.holds("TAKING and ADDING change nothing", () -> {
            GaugeNet x = Check.of(PIPE);
            x.taking();
            x.adding(true);
            x.adding(false);
            x.positions();
            due("in", x.count(5), 3);
            due("dead", x.count(6), 0);
            due("position", x.count(4), 0);
        });
    }

    private static void positions() {
        Check.holds("23: -2: none", () -> {
            due("positions", Check.of("unknown u;eq a:+u;fault p in a;").positions(), -2);
        });
        Check.holds("23: without FAULTS one, the first", () -> {
            due("positions", new GaugeNet().positions(), 1);
            due("positions", Check.of("eq a in 3:+1;").positions(), 1);
        });
        Check.holds("23: the last one alone; two; all four", () -> {
            due("positions", Check.of("eq a in 3:+1;fault p in a;").positions(), 8);
            due("positions", Check.of("eq a in 3:+1;eq b in 1:+1;fault p in a;fault q in b;").positions(), 10);
            due("positions", Check.of("eq a in 3:+1;eq b in 1:+1;eq c in 0:+1;eq d in 2:+1;fault p in a;fault q in b;"
                    + "fault r in c;fault s in d;").positions(), 15);
        });
        Check.holds("23: the fewest; of these the least bits", () -> {
            due("positions: 3 goes ahead of 0 and 1", Check.of("eq a in 0,3:+1;eq b in 1,3:+1;fault p in a;fault q in b;").positions(), 8);
            due("positions", Check.of("eq a in 2,3:+1;eq b in 2,3:+1;fault p in a;fault q in b;").positions(), 4);
            due("positions: 0, 3 go ahead of 1, 3", Check.of("eq a in 0,1:+1;eq b in 3:+1;fault p in a;fault q in b;").positions(), 9);
        });
        Check.holds("23: as THE NET is: GAUGES as they are, whatever the POSITION is", () -> {
            GaugeNet x = Check.of("unknown u;eq a in 2:+u;gauge g of u;fault p in a;");
            x.position(1);
            due("positions", x.positions(), 4);
            due("position", x.count(4), 1);
            x.in(0, false);
            due("positions", x.positions(), -2);
        });
    }

    private static void costs() {
        for (int gauges = 0; gauges <= 6; gauges++) {
            int n = gauges;
            Check.holds("24: bits of those there are; NONE: no such ones, of " + n, () -> {
                String s = "unknown u;";
                for (int g = 0; g < n; g++) {
                    s += "maybe g" + (char) ('a' + g) + " of u cost " + (g == 0 ? 100 : g) + ";";
                }
                GaugeNet x = Check.of(s);
                due("cost: of none", x.cost(0), 0);
                due("cost: of all", x.cost((1 << n) - 1), n == 0 ? 0 : 100 + n * (n - 1) / 2);
                due("cost", x.cost(1 << n), -1);
                due("cost", x.cost(1 << n | 1), -1);
                int[] none = {-1, 64, 65, 128, 1 << 8, 1 << 30, 1 << 31, 1 << 31 | 1, Integer.MAX_VALUE};
                for (int bits : none) {
                    due("cost " + bits, x.cost(bits), -1);
                }
            });
        }
        Check.holds("24: whether they are IN or DEAD or not", () -> {
            GaugeNet x = Check.of("unknown u;gauge g of u cost 4;maybe h of u cost 5;");
            x.dead(0, true);
            due("cost", x.cost(3), 9);
        });
    }

    private static void still() {
        Check.holds("39: NONE: no such ROW of EQS, GAUGES told", () -> {
            GaugeNet x = Check.of("unknown u;eq a:+u;eq b:+1;gauge g of u;maybe h of u;");
            int[] due = {1, 1, -1, -1, -1, -1, -1, -1, 1, 2, -1, -1, -1, -1, -1};
            for (int row = 0; row < due.length; row++) {
                due("still " + row, x.still(row), due[row]);
            }
            for (int row : NO_INDEX) {
                due("still " + row, x.still(row), -1);
            }
            due("still", Check.of("unknown u;").still(0), -1);
            due("still: GAUGES without EQS", Check.of("unknown u;gauge g of u;").still(0), -1);
        });
        Check.holds("39: all TESTS, of a ROW that is told, but not in THE NET; 0 without TESTS", () -> {
            GaugeNet x = Check.of("unknown u;eq a in 1:+u;eq b:+1;maybe g of u;gauge h of u;gauge i of u;");
            due("tests", x.tests(), 2);
            due("still", x.still(0), 2);
            due("still", x.still(8), 2);
            x.dead(1, true);
            due("still", x.still(9), 1);
            due("still", Check.of("unknown u;eq a:+u;").still(0), 0);
        });
        Check.holds("39: the last ROWS: EQ 7, GAUGE 5", () -> {
            String s = "unknown u;";
            for (int e = 0; e < 8; e++) {
                s += "eq e" + (char) ('a' + e) + ":+1;";
            }
            GaugeNet x = Check.of(s + gauges(6, "u"));
            due("tests", x.tests(), 23);
            due("still", x.still(7), 22);
            due("still", x.still(13), 18);
            due("still", x.still(14), -1);
        });
    }

    private static void counts() {
        Check.holds("42: 10 and a FAULT's number: its ROW; NONE for others", () -> {
            for (int n = 0; n <= 8; n++) {
                String s = "unknown u;eq a:+u;gauge g of u;maybe h of u;";
                for (int f = 0; f < n; f++) {
                    s += "fault f" + (char) ('a' + f) + " in " + (f % 3 == 0 ? "a" : f % 3 == 1 ? "g" : "h") + ";";
                }
                GaugeNet x = Check.of(s);
                due("faults", x.count(3), n);
                for (int f = -2; f < 12; f++) {
                    due("count " + (10 + f), x.count(10 + f), f < 0 || f >= n ? -1 : f % 3 == 0 ? 0 : 7 + f % 3);
                }
            }
        });
        Check.holds("42: NONE for others: below 0, 8, 9, and far ones", () -> {
            GaugeNet x = Check.of(PIPE);
            int[] none = {-1, -2, 8, 9, 13, 18, 32, 42, 256, 1 << 16, Integer.MAX_VALUE, Integer.MIN_VALUE, Integer.MIN_VALUE + 10};
            for (int what : none) {
                due("count " + what, x.count(what), -1);
            }
        });
        Check.holds("42: 7: bytes on the tape, from 0 to 2,000", () -> {
            GaugeNet x = new GaugeNet();
            due("count", x.count(7), 0);
            Check.feed(x, " ".repeat(2000));
            due("count", x.count(7), 2000);
            x.back(1);
            due("count", x.count(7), 1999);
        });
        Check.holds("An object is used for at most 512 calls: the last is as good as the first", () -> {
            GaugeNet x = new GaugeNet();
            for (int n = 0; n < 255; n++) {
                x.feed(0, 0, 0, 0, 0);
                x.back(20);
            }
            due("call 511", x.feed(0x65712061, 0x3a2b313b, 0x20202020, 0x20202020, 0x20202020), 20);
            due("call 512", x.read(), 0);
        });
    }
}
