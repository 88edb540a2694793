/** Counts answers that are not as due. */
final class Check {
    static int wrong = 0;
    static int asked = 0;

    static void due(String call, long got, long want) {
        asked++;
        if (got != want) {
            wrong++;
            System.out.println(call + " answered " + got + ", due is " + want);
        }
    }

    static void due(String call, boolean got, boolean want) {
        due(call, got ? 1 : 0, want ? 1 : 0);
    }

    /** A test of one sentence of the document: the sentence is told if some answer in it was not as due. */
    static void holds(String sentence, Runnable test) {
        int before = wrong;
        test.run();
        if (wrong != before) {
            System.out.println("    so this does not hold: " + sentence);
        }
    }

    static void end() {
        System.out.println(asked + " answers, " + wrong + " not as due");
        if (wrong != 0) {
            System.exit(1);
        }
    }

    /** Feeds a text of bytes 0 .. 255, filled up with blanks that are taken back; the last feed's or back's answer. */
    static int feed(GaugeNet x, String text) {
        int answer = x.count(7);
        for (int i = 0; i < text.length(); i += 20) {
            int[] v = new int[5];
            for (int k = 0; k < 20; k++) {
                int sign = i + k < text.length() ? text.charAt(i + k) : ' ';
                v[k / 4] |= (sign & 255) << 24 - k % 4 * 8;
            }
            answer = x.feed(v[0], v[1], v[2], v[3], v[4]);
        }
        int over = (20 - text.length() % 20) % 20;
        return over > 0 ? x.back(over) : answer;
    }

    static int read(GaugeNet x, String text) {
        feed(x, text);
        return x.read();
    }

    /** Reads a text that has a fault, on an object of its own. */
    static void fault(String text, int number, int place) {
        GaugeNet x = new GaugeNet();
        due("read() of " + text, read(x, text), number);
        due("place() of " + text, x.place(), place);
    }

    static void right(String text) {
        fault(text, 0, -1);
    }

    static GaugeNet of(String text) {
        GaugeNet x = new GaugeNet();
        due("read() of " + text, read(x, text), 0);
        return x;
    }
}
