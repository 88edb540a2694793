import java.math.BigInteger;
import java.util.ArrayList;
import java.util.HashMap;
import java.util.HashSet;
import java.util.List;
import java.util.Map;
import java.util.Set;
import java.util.regex.Matcher;
import java.util.regex.Pattern;

/** The document's words done over in the plainest way, for comparison: slow, and by other means than the class. */
final class Oracle {
    static final int NONE = -1;
    private static final String WORDS = "unknown u eq e in i gauge g maybe m of o noise n cost c fault f";
    private static final Pattern TEXT = Pattern.compile(
            "(uN;|eN(iI(,I)*)?:([+-](IN?|N))+;|[gm]NoN(nI)?(cI)?;|fNiN;)*");

    String tape = "";
    int faultPlace = NONE;
    int unknowns;
    int eqs;
    int gauges;
    int faults;
    int position;
    int in;
    int dead;
    int[][] numbers = new int[14][7];
    long[] constants = new long[14];
    int[] holds = new int[8];
    int[] noise = new int[14];
    int[] cost = new int[6];
    int[] faultRow = new int[8];
    private int testsNet = -1;
    private List<Integer> testList = new ArrayList<>();
    private final Map<Integer, BigInteger[]> weightsKept = new HashMap<>();

    // ---- reading

    int feed(String twenty) {
        if (tape.length() + 20 > 2000) {
            return NONE;
        }
        tape += twenty;
        return tape.length();
    }

    int back(int n) {
        if (n < 0 || n > tape.length()) {
            return NONE;
        }
        tape = tape.substring(0, tape.length() - n);
        return tape.length();
    }

    int read() {
        String text = tape;
        tape = "";
        List<String> tokens = new ArrayList<>();
        List<Integer> places = new ArrayList<>();
        StringBuilder kinds = new StringBuilder();
        Matcher m = Pattern.compile("[a-z]+|[0-9]+|[^\\t\\n\\r ]").matcher(text);
        while (m.find()) {
            tokens.add(m.group());
            places.add(m.start());
            kinds.append(kindOf(m.group()));
        }
        List<int[]> found = new ArrayList<>();
        for (int k = 1; k <= kinds.length() && found.isEmpty(); k++) {
            Matcher t = TEXT.matcher(kinds.substring(0, k));
            if (!t.matches() && !t.hitEnd()) {
                found.add(new int[] {places.get(k - 1), 1});
            }
        }
        if (found.isEmpty() && !TEXT.matcher(kinds).matches()) {
            found.add(new int[] {text.length(), 1});
        }
        if (tokens.size() > 400) {
            found.add(new int[] {places.get(400), 2});
        }
        findRoom(kinds, places, "u", 7, found);
        findRoom(kinds, places, "e", 8, found);
        findRoom(kinds, places, "gm", 6, found);
        findRoom(kinds, places, "f", 8, found);
        Oracle next = new Oracle();
        if (found.isEmpty()) {
            next.take(tokens, places, found);
        }
        if (!found.isEmpty()) {
            int[] first = found.get(0);
            for (int[] f : found) {
                if (f[0] < first[0] || f[0] == first[0] && f[1] < first[1]) {
                    first = f;
                }
            }
            faultPlace = first[0];
            return first[1];
        }
        become(next);
        return 0;
    }

    private static void findRoom(CharSequence kinds, List<Integer> places, String of, int most, List<int[]> found) {
        int n = 0;
        for (int i = 0; i < kinds.length(); i++) {
            if (of.indexOf(kinds.charAt(i)) >= 0 && ++n == most + 1) {
                found.add(new int[] {places.get(i), 2});
            }
        }
    }

    private static char kindOf(String token) {
        char c = token.charAt(0);
        if (c >= 'a' && c <= 'z') {
            String[] words = WORDS.split(" ");
            for (int i = 0; i < words.length; i += 2) {
                if (words[i].equals(token)) {
                    return words[i + 1].charAt(0);
                }
            }
            return token.length() > 8 ? '?' : 'N';
        }
        if (c >= '0' && c <= '9') {
            return token.length() > 4 ? '?' : 'I';
        }
        return ";:,+-".indexOf(c) >= 0 ? c : '?';
    }

    private void take(List<String> tokens, List<Integer> places, List<int[]> found) {
        Set<String> told = new HashSet<>();
        Map<String, Integer> unknownNames = new HashMap<>();
        Map<String, Integer> rowNames = new HashMap<>();
        int i = 0;
        while (i < tokens.size()) {
            String word = tokens.get(i);
            String name = tokens.get(i + 1);
            if (!told.add(name)) {
                found.add(new int[] {places.get(i + 1), 3});
            }
            int end = i;
            while (!tokens.get(end).equals(";")) {
                end++;
            }
            List<String> part = tokens.subList(i, end);
            List<Integer> at = places.subList(i, end);
            switch (word) {
                case "unknown":
                    unknownNames.put(name, unknowns++);
                    break;
                case "eq":
                    takeEq(part, at, unknownNames, found);
                    rowNames.put(name, eqs++);
                    break;
                case "fault":
                    if (!rowNames.containsKey(part.get(3))) {
                        found.add(new int[] {at.get(3), 4});
                    }
                    faultRow[faults++] = rowNames.getOrDefault(part.get(3), 0);
                    break;
                default:
                    takeGauge(part, at, unknownNames, found);
                    rowNames.put(name, 8 + gauges++);
                    break;
            }
            i = end + 1;
        }
    }

    private void takeEq(List<String> part, List<Integer> at, Map<String, Integer> names, List<int[]> found) {
        int colon = part.indexOf(":");
        for (int i = 3; i < colon; i += 2) {
            int p = Integer.parseInt(part.get(i));
            if (p > 3) {
                found.add(new int[] {at.get(i), 5});
            } else {
                holds[eqs] |= 1 << p;
            }
        }
        if (colon == 2) {
            holds[eqs] = 15;
        }
        Set<String> named = new HashSet<>();
        int i = colon + 1;
        while (i < part.size()) {
            int sign = part.get(i).equals("-") ? -1 : 1;
            i++;
            int value = 1;
            int intAt = -1;
            if (Character.isDigit(part.get(i).charAt(0))) {
                value = Integer.parseInt(part.get(i));
                intAt = at.get(i);
                i++;
            }
            boolean withName = i < part.size() && Character.isLetter(part.get(i).charAt(0));
            if (withName) {
                if (intAt >= 0 && (value < 1 || value > 9)) {
                    found.add(new int[] {intAt, 5});
                }
                Integer u = names.get(part.get(i));
                if (u == null) {
                    found.add(new int[] {at.get(i), 4});
                } else {
                    if (!named.add(part.get(i))) {
                        found.add(new int[] {at.get(i), 3});
                    }
                    numbers[eqs][u] = sign * value;
                }
                i++;
            } else {
                if (value > 999) {
                    found.add(new int[] {intAt, 5});
                }
                constants[eqs] += sign * value;
            }
        }
    }

    private void takeGauge(List<String> part, List<Integer> at, Map<String, Integer> names, List<int[]> found) {
        Integer u = names.get(part.get(3));
        if (u == null) {
            found.add(new int[] {at.get(3), 4});
        } else {
            numbers[8 + gauges][u] = 1;
        }
        int n = part.indexOf("noise");
        if (n > 0) {
            noise[8 + gauges] = Integer.parseInt(part.get(n + 1));
            if (noise[8 + gauges] > 3) {
                found.add(new int[] {at.get(n + 1), 5});
            }
        }
        cost[gauges] = 1;
        int c = part.indexOf("cost");
        if (c > 0) {
            cost[gauges] = Integer.parseInt(part.get(c + 1));
            if (cost[gauges] < 1 || cost[gauges] > 100) {
                found.add(new int[] {at.get(c + 1), 5});
            }
        }
        if (part.get(0).equals("gauge")) {
            in |= 1 << gauges;
        }
    }

    private void become(Oracle next) {
        faultPlace = NONE;
        unknowns = next.unknowns;
        eqs = next.eqs;
        gauges = next.gauges;
        faults = next.faults;
        position = 0;
        in = next.in;
        dead = 0;
        numbers = next.numbers;
        constants = next.constants;
        holds = next.holds;
        noise = next.noise;
        cost = next.cost;
        faultRow = next.faultRow;
        testsNet = -1;
        weightsKept.clear();
    }

    // ---- changes

    boolean position(int p) {
        if (p < 0 || p > 3) {
            return false;
        }
        position = p;
        return true;
    }

    boolean in(int gauge, boolean is) {
        if (gauge < 0 || gauge >= gauges) {
            return false;
        }
        in = is ? in | 1 << gauge : in & ~(1 << gauge);
        return true;
    }

    boolean dead(int gauge, boolean is) {
        if (gauge < 0 || gauge >= gauges) {
            return false;
        }
        dead = is ? dead | 1 << gauge : dead & ~(1 << gauge);
        return true;
    }

    boolean reading(int gauge, int v) {
        if (gauge < 0 || gauge >= gauges || v < -9999 || v > 9999) {
            return false;
        }
        constants[8 + gauge] = -v;
        return true;
    }

    // ---- the net

    int number(int eq, int unknown) {
        if (eq < 0 || eq >= eqs || unknown < -1 || unknown >= unknowns) {
            return -10000;
        }
        return unknown < 0 ? (int) constants[eq] : numbers[eq][unknown];
    }

    private int netOf(int p, int in, int dead) {
        int rows = 0;
        for (int e = 0; e < eqs; e++) {
            rows |= (holds[e] >> p & 1) << e;
        }
        for (int g = 0; g < gauges; g++) {
            if ((in >> g & 1) != 0 && (dead >> g & 1) == 0) {
                rows |= 1 << 8 + g;
            }
        }
        return rows;
    }

    int net() {
        return netOf(position, in, dead);
    }

    private boolean names(int row, int unknown) {
        return numbers[row][unknown] != 0;
    }

    private int unknownsOf(int rows) {
        int bits = 0;
        for (int r = 0; r < 14; r++) {
            for (int u = 0; u < 7; u++) {
                if ((rows >> r & 1) != 0 && names(r, u)) {
                    bits |= 1 << u;
                }
            }
        }
        return bits;
    }

    /** By augmenting paths. */
    private int pairsOf(int rows, int allowed) {
        int[] rowOf = new int[7];
        java.util.Arrays.fill(rowOf, -1);
        int n = 0;
        for (int r = 0; r < 14; r++) {
            if ((rows >> r & 1) != 0 && augment(r, allowed, rowOf, new boolean[7])) {
                n++;
            }
        }
        return n;
    }

    private boolean augment(int row, int allowed, int[] rowOf, boolean[] tried) {
        for (int u = 0; u < 7; u++) {
            if (names(row, u) && (allowed >> u & 1) != 0 && !tried[u]) {
                tried[u] = true;
                if (rowOf[u] < 0 || augment(rowOf[u], allowed, rowOf, tried)) {
                    rowOf[u] = row;
                    return true;
                }
            }
        }
        return false;
    }

    int pairs() {
        return pairsOf(net(), 127);
    }

    private boolean isMore(int net, int row) {
        return row >= 0 && (net >> row & 1) != 0 && pairsOf(net, 127) == pairsOf(net & ~(1 << row), 127);
    }

    int row(int row) {
        int net = net();
        if (row < 0 || row > 13 || (net >> row & 1) == 0) {
            return NONE;
        }
        if (isMore(net, row)) {
            return 2;
        }
        for (int u = 0; u < unknowns; u++) {
            if (names(row, u) && pairsOf(net, 127) == pairsOf(net, 127 & ~(1 << u))) {
                return 0;
            }
        }
        return 1;
    }

    int unknown(int k) {
        if (k < 0 || k >= unknowns) {
            return NONE;
        }
        for (int r = 0; r < 14; r++) {
            if (names(r, k) && isMore(net(), r)) {
                return 2;
            }
        }
        return pairsOf(net(), 127) == pairsOf(net(), 127 & ~(1 << k)) ? 0 : 1;
    }

    // ---- tests

    private List<Integer> list() {
        if (testsNet == net()) {
            return testList;
        }
        int net = net();
        List<Integer> found = new ArrayList<>();
        for (int size = 1; size <= 14; size++) {
            for (int s = 1; s < 1 << 14; s++) {
                if ((s & ~net) == 0 && Integer.bitCount(s) == size && over(s) && noneLess(s)) {
                    found.add(s);
                }
            }
        }
        testsNet = net;
        testList = found;
        return found;
    }

    private boolean over(int s) {
        return Integer.bitCount(s) > Integer.bitCount(unknownsOf(s));
    }

    private boolean noneLess(int s) {
        for (int t = (s - 1) & s; t > 0; t = (t - 1) & s) {
            if (over(t)) {
                return false;
            }
        }
        return true;
    }

    int tests() {
        return list().size();
    }

    int test(int k) {
        return k < 0 || k >= tests() ? NONE : list().get(k);
    }

    private boolean noFault(int f) {
        return f < 0 || f >= faults;
    }

    int parts(int f, int g) {
        if (noFault(f) || noFault(g)) {
            return NONE;
        }
        for (int k = 0; k < tests(); k++) {
            if ((test(k) >> faultRow[f] & 1) != 0 && (test(k) >> faultRow[g] & 1) == 0) {
                return k;
            }
        }
        return -2;
    }

    int seen(int f) {
        return noFault(f) ? NONE : isMore(net(), faultRow[f]) ? 1 : 0;
    }

    private boolean isParted(int net, int row, int other) {
        return row != other && isMore(net & ~(1 << other), row);
    }

    int parted(int f, int g) {
        return noFault(f) || noFault(g) || f == g ? NONE : isParted(net(), faultRow[f], faultRow[g]) ? 1 : 0;
    }

    private boolean all(int positions, int in, int dead, int but) {
        for (int f = 0; f < faults; f++) {
            if (faultRow[f] == but) {
                continue;
            }
            boolean seen = false;
            for (int p = 0; p < 4; p++) {
                seen |= (positions >> p & 1) != 0 && isMore(netOf(p, in, dead), faultRow[f]);
            }
            if (!seen) {
                return false;
            }
            for (int g = 0; g < faults; g++) {
                boolean parted = f == g || faultRow[g] == but;
                for (int p = 0; p < 4; p++) {
                    parted |= (positions >> p & 1) != 0 && isParted(netOf(p, in, dead), faultRow[f], faultRow[g]);
                }
                if (!parted) {
                    return false;
                }
            }
        }
        return true;
    }

    int told(int positions) {
        return positions < 1 || positions > 15 ? NONE : all(positions, in, dead, -1) ? 1 : 0;
    }

    private int sum(int g) {
        int s = 0;
        for (int i = 0; i < gauges; i++) {
            s += (g >> i & 1) * cost[i];
        }
        return s;
    }

    int cost(int g) {
        return g < 0 || g >= 1 << gauges ? NONE : sum(g);
    }

    int adding(boolean spare) {
        int best = -2;
        for (int a = 0; a < 1 << gauges; a++) {
            boolean ok = (a & (in | dead)) == 0 && all(1 << position, in | a, dead, -1);
            for (int g = 0; spare && g < gauges; g++) {
                if (((in | a) >> g & 1) != 0 && (dead >> g & 1) == 0) {
                    ok = ok && all(1 << position, in | a, dead | 1 << g, 8 + g);
                }
            }
            if (ok && (best < 0 || sum(a) < sum(best))) {
                best = a;
            }
        }
        return best;
    }

    int taking() {
        int best = 0;
        for (int t = 0; t < 1 << gauges; t++) {
            boolean ok = (t & ~(in & ~dead)) == 0;
            int left = netOf(position, in & ~t, dead);
            for (int f = 0; f < faults && ok; f++) {
                if ((t << 8 >> faultRow[f] & 1) != 0) {
                    continue;
                }
                ok = !isMore(net(), faultRow[f]) || isMore(left, faultRow[f]);
                for (int g = 0; g < faults; g++) {
                    if ((t << 8 >> faultRow[g] & 1) == 0) {
                        ok &= isParted(net(), faultRow[f], faultRow[g]) == isParted(left, faultRow[f], faultRow[g]);
                    }
                }
            }
            if (ok && sum(t) > sum(best)) {
                best = t;
            }
        }
        return best;
    }

    int positions() {
        int best = -2;
        for (int s = 1; s < 16; s++) {
            if (told(s) == 1 && (best < 0 || Integer.bitCount(s) < Integer.bitCount(best))) {
                best = s;
            }
        }
        return best;
    }

    // ---- routines

    private List<Integer> routine(int test, int without) {
        if (test(test) < 0 || without < 0 || without > 13 || (test(test) >> without & 1) == 0) {
            return null;
        }
        int left = test(test) & ~(1 << without);
        int found = 0;
        List<Integer> used = new ArrayList<>();
        boolean on = true;
        while (on) {
            on = false;
            for (int r = 0; r < 14 && !on; r++) {
                if ((left >> r & 1) != 0 && Integer.bitCount(unknownsOf(1 << r) & ~found) == 1) {
                    used.add(r);
                    left &= ~(1 << r);
                    found |= unknownsOf(1 << r);
                    on = true;
                }
            }
        }
        return used;
    }

    int uses(int test, int without) {
        List<Integer> used = routine(test, without);
        return used == null ? NONE : used.size();
    }

    int use(int test, int without, int i) {
        List<Integer> used = routine(test, without);
        return used == null || i < 0 || i >= used.size() ? NONE : used.get(i);
    }

    int ring(int test, int without) {
        List<Integer> used = routine(test, without);
        if (used == null) {
            return NONE;
        }
        int left = test(test) & ~(1 << without);
        for (int r : used) {
            left &= ~(1 << r);
        }
        return left;
    }

    /** By the determinants (Laplace) of what is left of a TEST without each of its rows; null: it can't be run. */
    private BigInteger[] weights(int rows) {
        if (weightsKept.containsKey(rows)) {
            return weightsKept.get(rows);
        }
        int n = Integer.bitCount(rows);
        int[] list = new int[n];
        int k = 0;
        for (int r = 0; r < 14; r++) {
            if ((rows >> r & 1) != 0) {
                list[k++] = r;
            }
        }
        int us = unknownsOf(rows);
        BigInteger[] w = new BigInteger[14];
        BigInteger divisor = BigInteger.ZERO;
        int sign = 0;
        for (int skip = 0; skip < n; skip++) {
            BigInteger d = BigInteger.valueOf(minor(list, skip, us, 0));
            d = skip % 2 == 0 ? d : d.negate();
            w[list[skip]] = d;
            divisor = divisor.gcd(d);
            sign = sign == 0 ? d.signum() : sign;
        }
        for (int r : list) {
            if (sign != 0) {
                w[r] = w[r].divide(sign < 0 ? divisor.negate() : divisor);
            }
        }
        BigInteger[] result = sign == 0 ? null : w;
        weightsKept.put(rows, result);
        return result;
    }

    private long minor(int[] list, int skip, int unknownsLeft, int from) {
        if (unknownsLeft == 0) {
            return 1;
        }
        int row = from == skip ? from + 1 : from;
        long sum = 0;
        int sign = 1;
        for (int u = 0; u < 7; u++) {
            if ((unknownsLeft >> u & 1) != 0) {
                long a = numbers[list[row]][u];
                if (a != 0) {
                    sum += sign * a * minor(list, skip, unknownsLeft & ~(1 << u), row + 1);
                }
                sign = -sign;
            }
        }
        return sum;
    }

    private BigInteger[] weightsAt(int test) {
        return test(test) < 0 ? null : weights(test(test));
    }

    int runs(int test) {
        return test(test) < 0 ? NONE : weightsAt(test) == null ? 0 : 1;
    }

    long weight(int test, int row) {
        BigInteger[] w = weightsAt(test);
        return w == null || row < 0 || row > 13 || w[row] == null ? -1000000000000L : w[row].longValueExact();
    }

    private BigInteger noughtOf(BigInteger[] w) {
        BigInteger sum = BigInteger.ZERO;
        for (int r = 0; r < 14; r++) {
            sum = w[r] == null ? sum : sum.add(w[r].multiply(BigInteger.valueOf(constants[r])));
        }
        return sum;
    }

    private BigInteger boundOf(BigInteger[] w) {
        BigInteger sum = BigInteger.ZERO;
        for (int r = 0; r < 14; r++) {
            sum = w[r] == null ? sum : sum.add(w[r].abs().multiply(BigInteger.valueOf(noise[r])));
        }
        return sum;
    }

    long nought(int test) {
        BigInteger[] w = weightsAt(test);
        return w == null ? -1000000000000000L : noughtOf(w).longValueExact();
    }

    long bound(int test) {
        BigInteger[] w = weightsAt(test);
        return w == null ? -1 : boundOf(w).longValueExact();
    }

    private boolean isRinging(BigInteger[] w) {
        return noughtOf(w).abs().compareTo(boundOf(w)) > 0;
    }

    int rings(int test) {
        BigInteger[] w = weightsAt(test);
        return w == null ? NONE : isRinging(w) ? 1 : 0;
    }

    long from(int test, int f) {
        BigInteger[] w = weightsAt(test);
        if (w == null || noFault(f)) {
            return -1;
        }
        if (w[faultRow[f]] == null || w[faultRow[f]].signum() == 0) {
            return -2;
        }
        BigInteger twice = boundOf(w).shiftLeft(1);
        BigInteger s = twice.divide(w[faultRow[f]].abs()).subtract(BigInteger.TWO).max(BigInteger.ONE);
        while (w[faultRow[f]].abs().multiply(s).compareTo(twice) <= 0) {
            s = s.add(BigInteger.ONE);
        }
        return s.longValueExact();
    }

    int odds(int test, int f, int s, long mark) {
        BigInteger[] w = weightsAt(test);
        if (w == null || f != NONE && noFault(f) || s < -9999 || s > 9999 || mark < -1) {
            return NONE;
        }
        long sum = f == NONE || w[faultRow[f]] == null ? 0 : w[faultRow[f]].longValueExact() * s;
        return countOdds(w, 8, sum, mark);
    }

    private int countOdds(BigInteger[] w, int row, long sum, long mark) {
        if (row == 14) {
            return Math.abs(sum) > mark ? 1 : 0;
        }
        if (w[row] == null) {
            return countOdds(w, row + 1, sum, mark);
        }
        int n = 0;
        for (int e = -noise[row]; e <= noise[row]; e++) {
            n += countOdds(w, row + 1, sum + e * w[row].longValueExact(), mark);
        }
        return n;
    }

    // ---- blame

    private boolean hits(int faultSet, List<Integer> ringing) {
        for (int t : ringing) {
            boolean hit = false;
            for (int f = 0; f < faults; f++) {
                hit |= (faultSet >> f & 1) != 0 && (t >> faultRow[f] & 1) != 0;
            }
            if (!hit) {
                return false;
            }
        }
        return true;
    }

    private List<Integer> setsOf(List<Integer> ringing, List<Integer> quiet, boolean strict) {
        List<Integer> found = new ArrayList<>();
        for (int size = 0; size <= 3; size++) {
            for (int s = 0; s < 1 << faults; s++) {
                boolean ok = Integer.bitCount(s) == size && hits(s, ringing);
                for (int t = (s - 1) & s; ok && s != 0; t = (t - 1) & s) {
                    ok = !hits(t, ringing);
                    if (t == 0) {
                        break;
                    }
                }
                for (int q : quiet) {
                    for (int f = 0; strict && f < faults; f++) {
                        ok &= (s >> f & 1) == 0 || (q >> faultRow[f] & 1) == 0;
                    }
                }
                if (ok) {
                    found.add(s);
                }
            }
        }
        return found;
    }

    private List<Integer> setsNow(boolean strict) {
        List<Integer> ringing = new ArrayList<>();
        List<Integer> quiet = new ArrayList<>();
        for (int t : list()) {
            if (weights(t) != null) {
                (isRinging(weights(t)) ? ringing : quiet).add(t);
            }
        }
        return setsOf(ringing, quiet, strict);
    }

    int sets(boolean strict) {
        return setsNow(strict).size();
    }

    int set(boolean strict, int i) {
        List<Integer> all = setsNow(strict);
        return i < 0 || i >= all.size() ? NONE : all.get(i);
    }

    int look() {
        int best = -2;
        int least = Integer.MAX_VALUE;
        List<Integer> all = setsNow(false);
        for (int f = 0; f < faults; f++) {
            int have = 0;
            for (int s : all) {
                have += s >> f & 1;
            }
            int greater = Math.max(have, all.size() - have);
            if (greater < least) {
                least = greater;
                best = f;
            }
        }
        return best;
    }

    int hide(int f, int g) {
        if (noFault(f) || noFault(g) || f == g) {
            return NONE;
        }
        if (faultRow[f] == faultRow[g]) {
            return 0;
        }
        List<BigInteger[]> pairs = new ArrayList<>();
        boolean some = false;
        for (int t : list()) {
            BigInteger[] w = weights(t);
            if (w != null) {
                BigInteger a = w[faultRow[f]] == null ? BigInteger.ZERO : w[faultRow[f]];
                BigInteger b = w[faultRow[g]] == null ? BigInteger.ZERO : w[faultRow[g]];
                if ((a.signum() == 0) != (b.signum() == 0)) {
                    return 0;
                }
                some |= a.signum() != 0;
                pairs.add(new BigInteger[] {a, b});
            }
        }
        for (BigInteger[] p : pairs) {
            for (BigInteger[] q : pairs) {
                if (!p[0].multiply(q[1]).equals(p[1].multiply(q[0]))) {
                    return 0;
                }
            }
        }
        return some ? 1 : 0;
    }

    int still(int row) {
        if (!(row >= 0 && row < eqs || row >= 8 && row < 8 + gauges)) {
            return NONE;
        }
        int n = 0;
        for (int t : list()) {
            n += (t >> row & 1) == 0 ? 1 : 0;
        }
        return n;
    }

    /** NONE: unseen; else the first SET. */
    private int judge(int f, int s) {
        List<Integer> ringing = new ArrayList<>();
        for (int t : list()) {
            BigInteger[] w = weights(t);
            if (w != null && w[faultRow[f]] != null
                    && w[faultRow[f]].abs().multiply(BigInteger.valueOf(s)).compareTo(boundOf(w)) > 0) {
                ringing.add(t);
            }
        }
        return ringing.isEmpty() ? NONE : setsOf(ringing, new ArrayList<>(), false).get(0);
    }

    int judged(int f, int size, int what) {
        if (noFault(f) || size < 1 || size > 200 || what < 0 || what > 2) {
            return NONE;
        }
        int n = 0;
        for (int s = 1; s <= size; s++) {
            int set = judge(f, s);
            n += (set == NONE ? 1 : set == 1 << f ? 0 : 2) == what ? 1 : 0;
        }
        return n;
    }

    int mistaken(int f, int size) {
        if (noFault(f) || size < 1 || size > 9999) {
            return NONE;
        }
        int set = judge(f, size);
        return set == NONE || set == 1 << f ? 0 : set;
    }

    int count(int what) {
        int[] counts = {unknowns, eqs, gauges, faults, position, in, dead, tape.length()};
        if (what >= 0 && what < counts.length) {
            return counts[what];
        }
        return what >= 10 && what - 10 < faults ? faultRow[what - 10] : NONE;
    }
}
