import java.util.Random;

/** The class against the oracle, over texts and states drawn by a fixed seed. */
public final class OracleTest {
    private static final int[] ODD = {Integer.MIN_VALUE, -10000, -33, -2, -1, 14, 16, 31, 32, 33, 64, 10000, Integer.MAX_VALUE};
    private static Random random = new Random(1);
    private static String told = "";

    public static void main(String[] args) {
        for (int seed = 1; seed <= 400; seed++) {
            random = new Random(seed);
            compare(random.nextInt(4) + 1, random.nextInt(4) + 1, random.nextInt(5), random.nextInt(6), 3, 20);
        }
        for (int seed = 1001; seed <= 1060; seed++) {
            random = new Random(seed);
            compare(random.nextInt(7) + 1, random.nextInt(9), random.nextInt(7), random.nextInt(9), 5, 6);
        }
        for (int seed = 2001; seed <= 2003; seed++) {
            random = new Random(seed);
            compare(7, 8, 6, 8, 1, 2);
        }
        for (int seed = 3001; seed <= 3004; seed++) {
            random = new Random(seed);
            compare(6, 8, 6, 8, 1, 3);
        }
        for (int seed = 4001; seed <= 4200; seed++) {
            random = new Random(seed);
            compareTexts();
        }
        for (int seed = 5001; seed <= 5200; seed++) {
            random = new Random(seed);
            askFirst();
        }
        readAll();
        readAllBeginnings();
        Check.end();
    }

    private static int below(int n) {
        return random.nextInt(n);
    }

    private static int oneOf(int from, int to) {
        return below(8) == 0 ? ODD[below(ODD.length)] : from + below(to - from + 1);
    }

    /** sparse: one of so many UNKNOWNS does not stand in an EQ. */
    private static String draw(int unknowns, int eqs, int gauges, int faults, int sparse) {
        StringBuilder s = new StringBuilder();
        String named = "";
        for (int u = 0; u < unknowns; u++) {
            s.append("unknown u").append((char) ('a' + u)).append(";");
        }
        for (int e = 0; e < eqs; e++) {
            s.append("eq e").append((char) ('a' + e));
            if (below(4) == 0) {
                s.append(" in ").append(below(4)).append(below(2) == 0 ? "," + below(4) : "");
            }
            s.append(":");
            boolean none = true;
            boolean again = e > 0 && named.length() > 0 && below(4) == 0;
            int from = s.length();
            for (int u = 0; u < unknowns && !again; u++) {
                if (sparse == 1 || below(sparse) == 0) {
                    s.append(below(2) == 0 ? "+" : "-");
                    s.append(below(3) == 0 ? "" : "" + (1 + below(below(2) == 0 ? 9 : 2))).append("u").append((char) ('a' + u));
                    none = false;
                }
            }
            // The same TERMS again make TESTS that can't be RUN.
            named = again ? named : s.substring(from);
            s.append(again ? named : "");
            none = none && !again;
            if (none || below(3) == 0) {
                s.append(below(2) == 0 ? "+" : "-").append(below(below(2) == 0 ? 1000 : 10));
            }
            s.append(";");
        }
        for (int g = 0; g < gauges && unknowns > 0; g++) {
            s.append(below(3) == 0 ? "maybe g" : "gauge g").append((char) ('a' + g));
            s.append(" of u").append((char) ('a' + (sparse == 1 ? g % unknowns : below(unknowns))));
            s.append(below(2) == 0 ? " noise " + below(4) : "").append(below(2) == 0 ? " cost " + (1 + below(100)) : "").append(";");
        }
        for (int f = 0; f < faults && (eqs > 0 || gauges > 0); f++) {
            boolean inEq = gauges == 0 || eqs > 0 && below(2) == 0;
            s.append("fault f").append((char) ('a' + f)).append(" in ").append(inEq ? "e" : "g");
            s.append((char) ('a' + below(inEq ? eqs : gauges))).append(";");
        }
        return s.toString();
    }

    private static void due(String call, long got, long want) {
        Check.due(call + " of " + told, got, want);
    }

    private static void due(String call, boolean got, boolean want) {
        Check.due(call + " of " + told, got, want);
    }

    private static void compare(int unknowns, int eqs, int gauges, int faults, int sparse, int rounds) {
        String text = draw(unknowns, eqs, gauges, faults, sparse);
        told = text;
        GaugeNet x = new GaugeNet();
        Oracle o = new Oracle();
        Check.feed(x, text);
        o.tape = text;
        due("read()", x.read(), o.read());
        for (int round = 0; round < rounds; round++) {
            askNet(x, o);
            askTests(x, o);
            askSums(x, o);
            askBlame(x, o);
            change(x, o);
        }
    }

    /** Several texts behind one another on one object, some of them with faults. */
    private static void compareTexts() {
        GaugeNet x = new GaugeNet();
        Oracle o = new Oracle();
        for (int n = 0; n < 6; n++) {
            String text = draw(below(5) + 1, below(5), below(5), below(6), 1 + below(3));
            int kind = below(6);
            text = kind == 0 ? "" : kind == 1 ? text + "unknown ua;" : kind == 2 ? text + "eq x:+1000;eq y" : text;
            told = text;
            Check.feed(x, text);
            o.tape = text;
            due("read()", x.read(), o.read());
            due("place()", x.place(), o.faultPlace);
            for (int w = 0; w < 18; w++) {
                due("count " + w, x.count(w), o.count(w));
            }
            for (int eq = 0; eq < 8; eq++) {
                for (int u = -1; u < 7; u++) {
                    due("number " + eq + " " + u, x.number(eq, u), o.number(eq, u));
                }
            }
            ask(x, o);
            change(x, o);
            if (below(2) == 0) {
                ask(x, o);
            }
        }
    }

    private static void ask(GaugeNet x, Oracle o) {
        askNet(x, o);
        askTests(x, o);
        askSums(x, o);
        askBlame(x, o);
    }

    /** Each call as the first behind a text and some changes: no answer hangs on what was asked ahead of it. */
    private static void askFirst() {
        String text = draw(below(4) + 1, below(5), below(5), below(5) + 1, 1 + below(3));
        told = text;
        int p = below(3) == 0 ? below(4) : 0;
        int out = below(3) == 0 ? below(4) : -1;
        int v = below(9) - 4;
        Oracle o = new Oracle();
        o.tape = text;
        o.read();
        o.position(p);
        o.in(out, false);
        o.reading(0, v);
        for (int call = 0; call < 30; call++) {
            GaugeNet x = new GaugeNet();
            Check.feed(x, text);
            x.read();
            x.position(p);
            x.in(out, false);
            x.reading(0, v);
            askOne(call, x, o);
        }
    }

    private static void askOne(int call, GaugeNet x, Oracle o) {
        int t = drawTest(o);
        int row = oneOf(0, 13);
        int f = oneOf(0, o.faults);
        int g = oneOf(0, o.faults);
        boolean is = below(2) == 0;
        int what = below(3);
        String asked = "first call " + call + " " + t + " " + row + " " + f + " " + g;
        switch (call) {
            case 0: due(asked, x.pairs(), o.pairs()); break;
            case 1: due(asked, x.row(row), o.row(row)); break;
            case 2: due(asked, x.unknown(f), o.unknown(f)); break;
            case 3: due(asked, x.tests(), o.tests()); break;
            case 4: due(asked, x.test(t), o.test(t)); break;
            case 5: due(asked, x.parts(f, g), o.parts(f, g)); break;
            case 6: due(asked, x.seen(f), o.seen(f)); break;
            case 7: due(asked, x.parted(f, g), o.parted(f, g)); break;
            case 8: due(asked, x.told(f + 1), o.told(f + 1)); break;
            case 9: due(asked, x.adding(is), o.adding(is)); break;
            case 10: due(asked, x.taking(), o.taking()); break;
            case 11: due(asked, x.positions(), o.positions()); break;
            case 12: due(asked, x.uses(t, row), o.uses(t, row)); break;
            case 13: due(asked, x.use(t, row, 0), o.use(t, row, 0)); break;
            case 14: due(asked, x.ring(t, row), o.ring(t, row)); break;
            case 15: due(asked, x.runs(t), o.runs(t)); break;
            case 16: due(asked, x.weight(t, row), o.weight(t, row)); break;
            case 17: due(asked, x.nought(t), o.nought(t)); break;
            case 18: due(asked, x.bound(t), o.bound(t)); break;
            case 19: due(asked, x.rings(t), o.rings(t)); break;
            case 20: due(asked, x.from(t, f), o.from(t, f)); break;
            case 21: due(asked, x.odds(t, f, g, 1), o.odds(t, f, g, 1)); break;
            case 22: due(asked, x.sets(is), o.sets(is)); break;
            case 23: due(asked, x.set(is, 0), o.set(is, 0)); break;
            case 24: due(asked, x.look(), o.look()); break;
            case 25: due(asked, x.hide(f, g), o.hide(f, g)); break;
            case 26: due(asked, x.still(row), o.still(row)); break;
            case 27: due(asked, x.judged(f, 9, what), o.judged(f, 9, what)); break;
            case 28: due(asked, x.mistaken(f, 7), o.mistaken(f, 7)); break;
            default: due(asked, x.net(), o.net()); break;
        }
    }

    private static void change(GaugeNet x, Oracle o) {
        for (int i = 0; i < 3; i++) {
            int g = oneOf(0, 5);
            boolean is = below(2) == 0;
            int v = oneOf(-30, 30);
            int p = oneOf(0, 3);
            switch (below(5)) {
                case 0:
                    due("position", x.position(p), o.position(p));
                    break;
                case 1:
                    due("in", x.in(g, is), o.in(g, is));
                    break;
                case 2:
                    due("dead", x.dead(g, below(3) == 0 && is), o.dead(g, (o.dead >> g & 1) != 0));
                    due("dead", x.dead(g, is), o.dead(g, is));
                    break;
                default:
                    due("reading", x.reading(g, v), o.reading(g, v));
                    break;
            }
        }
    }

    private static void askNet(GaugeNet x, Oracle o) {
        due("net()", x.net(), o.net());
        due("pairs()", x.pairs(), o.pairs());
        for (int i = -2; i < 18; i++) {
            due("row " + i, x.row(i), o.row(i));
            due("unknown " + i, x.unknown(i), o.unknown(i));
            due("seen " + i, x.seen(i), o.seen(i));
            due("told " + i, x.told(i), o.told(i));
            due("count " + i, x.count(i), o.count(i));
            int a = oneOf(-1, 8);
            int b = oneOf(-1, 8);
            due("number " + a + " " + b, x.number(a, b), o.number(a, b));
            due("parted " + a + " " + b, x.parted(a, b), o.parted(a, b));
            int c = oneOf(0, 63);
            due("cost " + c, x.cost(c), o.cost(c));
        }
        due("adding(false)", x.adding(false), o.adding(false));
        due("adding(true)", x.adding(true), o.adding(true));
        due("taking()", x.taking(), o.taking());
        due("positions()", x.positions(), o.positions());
    }

    private static int drawTest(Oracle o) {
        return oneOf(0, Math.max(o.tests(), 1));
    }

    private static void askTests(GaugeNet x, Oracle o) {
        int n = o.tests();
        due("tests()", x.tests(), n);
        for (int k = -1; k <= n; k += 1 + n / 50) {
            due("test " + k, x.test(k), o.test(k));
        }
        for (int i = 0; i < 12; i++) {
            int t = drawTest(o);
            int r = oneOf(0, 13);
            int j = oneOf(-1, 7);
            due("uses " + t + " " + r, x.uses(t, r), o.uses(t, r));
            due("use " + t + " " + r + " " + j, x.use(t, r, j), o.use(t, r, j));
            due("ring " + t + " " + r, x.ring(t, r), o.ring(t, r));
            due("still " + r, x.still(r), o.still(r));
            int a = oneOf(0, o.faults);
            int b = oneOf(0, o.faults);
            due("parts " + a + " " + b, x.parts(a, b), o.parts(a, b));
        }
    }

    private static void askSums(GaugeNet x, Oracle o) {
        for (int i = 0; i < 12; i++) {
            int t = drawTest(o);
            int r = oneOf(0, 13);
            int f = oneOf(-1, o.faults);
            int s = oneOf(-20, 20);
            long mark = below(6) == 0 ? (below(2) == 0 ? Long.MAX_VALUE : Long.MIN_VALUE) : below(60) - 2;
            due("runs " + t, x.runs(t), o.runs(t));
            due("weight " + t + " " + r, x.weight(t, r), o.weight(t, r));
            due("nought " + t, x.nought(t), o.nought(t));
            due("bound " + t, x.bound(t), o.bound(t));
            due("rings " + t, x.rings(t), o.rings(t));
            due("from " + t + " " + f, x.from(t, f), o.from(t, f));
            due("odds " + t + " " + f + " " + s + " " + mark, x.odds(t, f, s, mark), o.odds(t, f, s, mark));
        }
    }

    private static void askBlame(GaugeNet x, Oracle o) {
        for (int i = 0; i < 2; i++) {
            boolean strict = i == 1;
            int n = o.sets(strict);
            due("sets " + strict, x.sets(strict), n);
            for (int k = -1; k <= n; k++) {
                due("set " + strict + " " + k, x.set(strict, k), o.set(strict, k));
            }
            due("set", x.set(strict, Integer.MAX_VALUE), -1);
        }
        due("look()", x.look(), o.look());
        for (int i = 0; i < 8; i++) {
            int f = oneOf(0, o.faults);
            int g = oneOf(0, o.faults);
            int s = o.tests() > 200 ? oneOf(1, 4) : oneOf(0, 40);
            int what = oneOf(0, 2);
            due("hide " + f + " " + g, x.hide(f, g), o.hide(f, g));
            due("judged " + f + " " + s + " " + what, x.judged(f, s, what), o.judged(f, s, what));
            due("mistaken " + f + " " + s, x.mistaken(f, s), o.mistaken(f, s));
        }
    }

    // ---- texts with faults

    private static final String[] BITS = {"unknown", "eq", "in", "gauge", "maybe", "of", "noise", "cost", "fault",
        "ua", "ub", "ea", "ga", "fa", "longname", "longnames", "1", "0", "9", "10", "999", "1000", "12345", "3", "4",
        "100", "101", ";", ":", ",", "+", "-", ".", "A", "\t", "\n", "\r", " ", "\f", "\u0000", "\u00e9"};

    private static void readAll() {
        for (int seed = 1; seed <= 20000; seed++) {
            random = new Random(seed);
            String text = draw(below(6) + 1, below(5), below(5), below(5), 2);
            if (below(3) == 0) {
                text += draw(below(8), below(8), below(6), below(8), 2).replace("ua", "uz").replace("ea", "ez").replace("fa", "fz");
            }
            if (below(20) == 0) {
                StringBuilder s = new StringBuilder("unknown x;eq a:");
                for (int i = below(5) + 194; i > 0; i--) {
                    s.append("+1");
                }
                text = s + (below(2) == 0 ? " " : "") + (below(3) == 0 ? "x" : "") + (below(3) == 0 ? "" : ";");
            }
            int changes = below(3);
            StringBuilder s = new StringBuilder(text);
            for (int i = 0; i < changes; i++) {
                int at = below(s.length() + 1);
                int cut = below(3) == 0 ? 0 : Math.min(below(4), s.length() - at);
                s.replace(at, at + cut, below(3) == 0 ? "" : BITS[below(BITS.length)]);
            }
            text = s.length() > 1980 ? s.substring(0, 1980) : s.toString();
            told = text;
            GaugeNet x = new GaugeNet();
            Oracle o = new Oracle();
            Check.feed(x, text);
            o.tape = text;
            due("read()", x.read(), o.read());
            due("place()", x.place(), o.faultPlace);
            for (int w = 0; w < 18; w++) {
                due("count " + w, x.count(w), o.count(w));
            }
        }
    }

    /** A TOKEN of each kind behind each beginning of a text that has all kinds of TELLS. */
    private static void readAllBeginnings() {
        String text = "unknown x ; eq a in 0 , 1 : + 2 x - 2 + y ; gauge g of x noise 1 cost 2 ; maybe h of x cost 1 ; "
                + "gauge i of x noise 3 ; fault f in a ; eq b : - 1 ; ";
        String[] kinds = {"unknown", "eq", "in", "gauge", "maybe", "of", "noise", "cost", "fault", "z", "1", ";", ":", ",", "+", "-", "?", ""};
        for (int n = 0; n <= text.length(); n++) {
            if (n > 0 && text.charAt(n - 1) != ' ') {
                continue;
            }
            for (String kind : kinds) {
                for (String last : kinds) {
                    told = text.substring(0, n) + kind + " " + last;
                    GaugeNet x = new GaugeNet();
                    Oracle o = new Oracle();
                    Check.feed(x, told);
                    o.tape = told;
                    due("read()", x.read(), o.read());
                    due("place()", x.place(), o.faultPlace);
                }
            }
        }
    }
}
