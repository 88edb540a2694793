/** Each sentence on texts and the tape that names an edge has a test of its own here (Terms, promises 1 to 5 and 10). */
public final class TextEdgesTest {
    private static final String[] WORDS = {"unknown", "eq", "in", "gauge", "maybe", "of", "noise", "cost", "fault"};
    private static final String SEVEN = "unknown a;unknown b;unknown c;unknown d;unknown e;unknown f;unknown g;";
    private static final String SIX = "gauge ga of a;maybe gb of a;gauge gc of a;maybe gd of a;gauge ge of a;maybe gf of a;";

    public static void main(String[] args) {
        newObject();
        tape();
        tokens();
        names();
        ints();
        syntax();
        room();
        order();
        twice();
        names4();
        wrong();
        inPlace();
        oneAfterAnother();
        numbers();
        Check.end();
    }

    private static void due(String call, long got, long want) {
        Check.due(call, got, want);
    }

    private static void fault(String text, int number, int place) {
        Check.fault(text, number, place);
    }

    private static void right(String text) {
        Check.right(text);
    }

    private static void newObject() {
        Check.holds("1: Nothing is told.", () -> {
            GaugeNet x = new GaugeNet();
            for (int what = -1; what < 20; what++) {
                due("count " + what, x.count(what), what >= 0 && what < 8 ? 0 : -1);
            }
            due("net", x.net(), 0);
            due("pairs", x.pairs(), 0);
            due("tests", x.tests(), 0);
            due("row", x.row(0), -1);
            due("row", x.row(8), -1);
            due("unknown", x.unknown(0), -1);
            due("test", x.test(0), -1);
            due("number", x.number(0, -1), -10000);
            due("seen", x.seen(0), -1);
            due("parts", x.parts(0, 1), -1);
            due("parted", x.parted(0, 1), -1);
            due("hide", x.hide(0, 1), -1);
            due("judged", x.judged(0, 1, 0), -1);
            due("mistaken", x.mistaken(0, 1), -1);
            due("still", x.still(0), -1);
            due("still", x.still(8), -1);
        });
        Check.holds("1: nothing told: no routine, sum or set but the one of none", () -> {
            GaugeNet x = new GaugeNet();
            due("uses", x.uses(0, 0), -1);
            due("use", x.use(0, 0, 0), -1);
            due("ring", x.ring(0, 0), -1);
            due("runs", x.runs(0), -1);
            due("weight", x.weight(0, 0), -1000000000000L);
            due("nought", x.nought(0), -1000000000000000L);
            due("bound", x.bound(0), -1);
            due("rings", x.rings(0), -1);
            due("from", x.from(0, 0), -1);
            due("odds", x.odds(0, -1, 0, -1), -1);
            due("sets", x.sets(false), 1);
            due("sets", x.sets(true), 1);
            due("set", x.set(false, 0), 0);
            due("set", x.set(false, 1), -1);
            due("look", x.look(), -2);
            due("told", x.told(15), 1);
            due("adding", x.adding(false), 0);
            due("adding", x.adding(true), 0);
            due("taking", x.taking(), 0);
            due("positions", x.positions(), 1);
            due("cost", x.cost(0), 0);
            due("cost", x.cost(1), -1);
        });
        Check.holds("4, 5: an empty tape is a text that tells nothing: 0; place: NONE without", () -> {
            GaugeNet x = new GaugeNet();
            due("place before any read", x.place(), -1);
            due("read", x.read(), 0);
            due("place", x.place(), -1);
            Check.of("unknown a;");
            right(" \t\r\n ");
        });
    }

    private static void tape() {
        Check.holds("2: twenty bytes, the highest of a first", () -> {
            GaugeNet x = new GaugeNet();
            due("feed", x.feed(0x65712061, 0x3a2b3132, 0x332d3435, 0x202b3720, 0x3b0a0d09), 20);
            due("read", x.read(), 0);
            due("constant", x.number(0, -1), 123 - 45 + 7);
        });
        Check.holds("2: a byte is not wrapped by its sign", () -> {
            for (int b = 0; b < 256; b++) {
                GaugeNet x = new GaugeNet();
                x.feed(b << 24 | 0x202020, 0x20202020, 0x20202020, 0x20202020, 0x20202020);
                boolean blank = b == 9 || b == 10 || b == 13 || b == 32;
                due("read " + b, x.read(), blank ? 0 : 1);
                due("place " + b, x.place(), blank ? -1 : 0);
                x.feed(0x20202020, 0x20202020, 0x20202020, 0x20202020, 0x20202000 | b);
                due("read " + b, x.read(), blank ? 0 : 1);
                due("place " + b, x.place(), blank ? -1 : 19);
            }
        });
        Check.holds("2: 2,000 bytes are not more than 2,000", () -> {
            GaugeNet x = new GaugeNet();
            Check.feed(x, " ".repeat(1980));
            due("feed", x.feed(0x20202020, 0x20202020, 0x20202020, 0x20202020, 0x20202020), 2000);
            due("read", x.read(), 0);
        });
        Check.holds("2: NONE, and nothing comes, if it would have more than 2,000", () -> {
            for (int n = 1981; n <= 2000; n++) {
                GaugeNet x = new GaugeNet();
                Check.feed(x, "unknown a" + " ".repeat(n - 10) + ";");
                due("count", x.count(7), n);
                due("feed", x.feed(-1, -1, -1, -1, -1), -1);
                due("count", x.count(7), n);
                due("read", x.read(), 0);
                due("feed", x.feed(-1, -1, -1, -1, -1), 20);
            }
        });
        Check.holds("3: the last n bytes go", () -> {
            GaugeNet x = new GaugeNet();
            Check.feed(x, "unknown a; unknown b;");
            due("back", x.back(11), 10);
            due("read", x.read(), 0);
            due("unknowns", x.count(0), 1);
            Check.feed(x, "unknown a");
            due("back: none", x.back(0), 9);
            due("back: all", x.back(9), 0);
            due("back: of an empty tape none", x.back(0), 0);
            due("read", x.read(), 0);
        });
        Check.holds("3: NONE, and nothing goes, if it has not so many", () -> {
            GaugeNet x = new GaugeNet();
            due("back", x.back(1), -1);
            Check.feed(x, "unknown a;");
            due("back", x.back(11), -1);
            due("back", x.back(Integer.MAX_VALUE), -1);
            due("count", x.count(7), 10);
            due("read", x.read(), 0);
            due("back: the tape is empty again", x.back(1), -1);
        });
        Check.holds("3: NONE, and nothing goes, if n is below 0", () -> {
            GaugeNet x = new GaugeNet();
            Check.feed(x, "unknown a;");
            due("back", x.back(-1), -1);
            due("back", x.back(Integer.MIN_VALUE), -1);
            due("back", x.back(-20), -1);
            due("count", x.count(7), 10);
            due("read", x.read(), 0);
        });
        Check.holds("4: the tape is empty then, by a FAULT too", () -> {
            GaugeNet x = new GaugeNet();
            due("read", Check.read(x, "unknown"), 1);
            due("count", x.count(7), 0);
            due("read", x.read(), 0);
            due("place: of the latest read()", x.place(), -1);
            due("read", Check.read(x, "  unknown;"), 1);
            due("place: of the latest read()", x.place(), 9);
            due("read", Check.read(x, "unknown ab"), 1);
            due("place: of the latest read()", x.place(), 10);
        });
        Check.holds("A TEXT has 2,000 bytes at most: the last byte counts", () -> {
            right("unknown a" + " ".repeat(1990) + ";");
            fault("unknown a" + " ".repeat(1991), 1, 2000);
            fault("unknown a;" + " ".repeat(1989) + "x", 1, 1999);
            fault("unknown a;" + " ".repeat(1980) + "a of b ; :", 1, 1990);
            fault("unknown a;" + " ".repeat(1982) + "unknown;", 1, 1999);
            fault("eq a:+" + " ".repeat(1989) + "12345", 1, 1995);
            fault("eq a:+" + " ".repeat(1990) + "1234", 1, 2000);
        });
    }

    private static void tokens() {
        Check.holds("blanks are 9, 10, 13, 32 and no other", () -> {
            for (char c = 0; c < 256; c++) {
                boolean blank = c == 9 || c == 10 || c == 13 || c == 32;
                boolean letter = c >= 'a' && c <= 'z';
                fault("unknown" + c + "x;", blank ? 0 : 1, blank ? -1 : letter ? 0 : 7);
            }
        });
        Check.holds("letters are a .. z and no other", () -> {
            for (char c = 0; c < 256; c++) {
                boolean blank = c == 9 || c == 10 || c == 13 || c == 32;
                boolean letter = c >= 'a' && c <= 'z';
                fault("unknown " + c + ";", letter ? 0 : 1, letter ? -1 : blank ? 9 : 8);
            }
        });
        Check.holds("digits are 0 .. 9 and no other", () -> {
            for (char c = 0; c < 256; c++) {
                boolean blank = c == 9 || c == 10 || c == 13 || c == 32;
                boolean letter = c >= 'a' && c <= 'z';
                boolean digit = c >= '0' && c <= '9';
                fault("eq a:+" + c + ";", digit ? 0 : letter ? 4 : 1, digit ? -1 : blank ? 7 : 6);
            }
        });
        Check.holds("with blanks between or not", () -> {
            right("unknown x;eq a in 0,1:+x-2;gauge g of x noise 1cost 2;fault f in a;");
            right(" unknown\tx\n;\req a in 0 , 1 : + x - 2 ; gauge g of x noise 1 cost 2 ; fault f in a ; ");
            right("unknown x;eq a:+2x;eq b:+2 x;eq c:+\n2\n\tx;");
        });
        Check.holds("the longest that can be", () -> {
            fault("unknownx;", 1, 0);
            fault("unknow nx;", 1, 0);
            right("unknown unknow;unknown u;unknown eqs;unknown inn;");
            fault("unknown x;gauge g of x noise1;gauge h ofx;", 1, 38);
            fault("eq a in 0 1:+1;", 1, 10);
            fault("eq a:+1 1;", 1, 8);
            right("eq a:+11;");
        });
    }

    private static void names() {
        Check.holds("NAMES: 8 at most; a longer one is no TOKEN", () -> {
            right("unknown abcdefgh;");
            fault("unknown abcdefghi;", 1, 8);
            fault("unknown " + "a".repeat(1000) + ";", 1, 8);
            fault("abcdefghi", 1, 0);
            fault("unknown abcdefghunknown;", 1, 8);
        });
        Check.holds("NAMES of 8 letters differ by the first and by the last", () -> {
            right("unknown aaaaaaaa;unknown aaaaaaab;unknown baaaaaaa;unknown aaaaaaa;unknown zzzzzzzz;unknown zzzzzzz;");
            fault("unknown zzzzzzzz;unknown zzzzzzzz;", 3, 25);
        });
        for (String word : WORDS) {
            Check.holds("none of the words in quotes: " + word, () -> {
                fault("unknown " + word + ";", 1, 8);
                fault("eq " + word + ":+1;", 1, 3);
                fault("unknown x;gauge " + word + " of x;", 1, 16);
                fault("unknown x;gauge g of " + word + ";", 1, 21);
                fault("eq a:+1;fault " + word + " in a;", 1, 14);
                fault("eq a:+1;fault f in " + word + ";", 1, 19);
                fault("eq a:+" + word + ";", 1, 6);
                fault("eq a:+1" + word + ";", 1, 7);
                right("unknown " + word + "x;unknown x" + word.substring(1) + ";");
            });
        }
    }

    private static void ints() {
        Check.holds("INTS: 1 to 4 digits; a longer one is no TOKEN", () -> {
            right("eq a:+0;");
            right("eq a:+0999;");
            fault("eq a:+00999;", 1, 6);
            fault("eq a:+10000;", 1, 6);
            fault("eq a in 00003:+1;", 1, 8);
            right("eq a in 0003:+1;");
            fault("eq a:+" + "9".repeat(500) + ";", 1, 6);
            fault("eq a:+9999;", 5, 6);
        });
    }

    private static void syntax() {
        Check.holds("SYNTAX: a TOKEN, or what is none, with which no text goes on", () -> {
            String text = "unknown x;eq a in 0,1:+x-2+3;gauge g of x noise 1 cost 2;maybe h of x cost 3;fault f in a;";
            right(text);
            fault(text + "x", 1, text.length());
            fault(text + ";", 1, text.length());
            fault("unknown eq", 1, 8);
            fault("unknown x,", 1, 9);
            fault("eq a+", 1, 4);
            fault("eq a in:", 1, 7);
            fault("eq a in 0;", 1, 9);
            fault("eq a in 0,1,:", 1, 12);
            fault("eq a:;", 1, 5);
            fault("eq a:x;", 1, 5);
            fault("eq a:+;", 1, 6);
            fault("eq a:+-1;", 1, 6);
            fault("eq a:+x x;", 1, 8);
            fault("eq a:+x 1;", 1, 8);
            fault("eq a:+1:", 1, 7);
            fault("gauge g in x;", 1, 8);
            fault("gauge g;", 1, 7);
            fault("maybe m of x noise;", 1, 18);
            fault("maybe m of x cost;", 1, 17);
            fault("maybe m of x cost 1 noise 1;", 1, 20);
            fault("maybe m of x noise 1 noise 1;", 1, 21);
            fault("maybe m of x noise - 1;", 1, 19);
            fault("fault f of a;", 1, 8);
            fault("fault f in a,", 1, 12);
            fault("fault f in 1;", 1, 11);
        });
        Check.holds("the text's end: its length, of each text that is cut off within a TELL", () -> {
            String text = "unknown x ; eq a in 0 , 1 : + 2 x - 2 ; gauge g of x noise 1 cost 2 ; fault f in a ;";
            for (int n = 0; n <= text.length(); n++) {
                String cut = text.substring(0, n);
                boolean whole = cut.isBlank() || cut.stripTrailing().endsWith(";");
                // A word that is cut off may be a NAME, with which no TELL begins or goes on.
                int at = cut.lastIndexOf(' ') + 1;
                String last = cut.substring(at);
                boolean part = !last.isEmpty() && text.charAt(n < text.length() ? n : n - 1) != ' ' && last.matches("[a-z]+");
                fault(cut, whole ? 0 : 1, whole ? -1 : part ? at : n);
            }
        });
    }

    /** A text of so many TOKENS that tells an eq a and an unknown u. */
    private static String ofTokens(int count) {
        String s = count % 2 == 0 ? "unknown u;unknown v;" : "unknown u;";
        return s + "eq a:" + "+1".repeat((count - (count % 2 == 0 ? 10 : 7)) / 2) + ";";
    }

    private static void room() {
        Check.holds("ROOM: a 401st TOKEN, and 400 are none too many", () -> {
            right("eq a:" + "+1".repeat(198) + ";");
            fault("eq a:" + "+1".repeat(199) + ";", 2, 402);
            right("eq a:" + "+1".repeat(195) + ";unknown u;unknown v;");
            fault("eq a:" + "+1".repeat(195) + ";unknown u;unknown v;eq", 2, 416);
            fault("eq a:" + "+1".repeat(195) + ";unknown u;unknown v;eq b:+1;", 2, 416);
        });
        String[] tells = {"unknown z ;", "eq b in 0 , 1 : + 2 u - 3 ;", "gauge g of u noise 1 cost 2 ;", "maybe m of u ;", "fault f in a ;"};
        for (String tell : tells) {
            Check.holds("ROOM: the 401st TOKEN, whichever it is of " + tell, () -> {
                String[] tokens = tell.split(" ");
                int at = 0;
                for (int i = 0; i < tokens.length; i++) {
                    String ahead = ofTokens(400 - i);
                    fault(ahead + tell, 2, ahead.length() + at);
                    at += tokens[i].length() + 1;
                }
                right(ofTokens(400 - tokens.length) + tell);
            });
        }
        Check.holds("ROOM: an 8th unknown, at its first TOKEN", () -> {
            right(SEVEN);
            fault(SEVEN + "unknown h;", 2, 70);
            fault(SEVEN + " \nunknown a;", 2, 72);
            fault(SEVEN + "unknown", 2, 70);
            fault("eq k:+1;" + SEVEN + "unknown 1", 2, 78);
        });
        Check.holds("ROOM: a 9th eq, at its first TOKEN", () -> {
            String s = "";
            for (char c = 'a'; c <= 'h'; c++) {
                s += "eq " + c + ":+1;";
            }
            right(s);
            fault(s + "eq i:+1;", 2, 64);
            fault(s + "eq eq", 2, 64);
        });
        Check.holds("ROOM: a 7th GAUGE (gauge, maybe), at its first TOKEN", () -> {
            right("unknown a;" + SIX);
            fault("unknown a;" + SIX + "gauge gg of a;", 2, 10 + SIX.length());
            fault("unknown a;" + SIX + "maybe gg of a;", 2, 10 + SIX.length());
            fault("unknown a;" + SIX + "maybe", 2, 10 + SIX.length());
            fault("unknown a;" + SIX.replace("gauge", "maybe") + "gauge", 2, 10 + SIX.length());
            fault("unknown a;" + SIX.replace("maybe", "gauge") + "maybe", 2, 10 + SIX.length());
        });
        Check.holds("ROOM: a 9th fault, at its first TOKEN", () -> {
            String s = "eq a:+1;";
            for (char c = 'b'; c <= 'i'; c++) {
                s += "fault " + c + " in a;";
            }
            right(s);
            fault(s + "fault j in a;", 2, 112);
            fault(s + "fault ;", 2, 112);
        });
        Check.holds("all that there is room for, in one text", () -> {
            String s = SEVEN + SIX;
            for (char c = 'a'; c <= 'h'; c++) {
                s += "eq e" + c + ":+g;fault f" + c + " in ge;";
            }
            GaugeNet x = Check.of(s);
            due("unknowns", x.count(0), 7);
            due("eqs", x.count(1), 8);
            due("gauges", x.count(2), 6);
            due("faults", x.count(3), 8);
            due("in", x.count(5), 21);
            due("the row of the last fault", x.count(17), 12);
            due("no more", x.count(18), -1);
            due("net", x.net(), 255 | 21 << 8);
        });
    }

    private static void order() {
        Check.holds("the first by its place", () -> {
            fault(SEVEN + "unknown h; nothing", 2, 70);
            fault(SEVEN + "nothing unknown h;", 1, 70);
            fault("eq a:" + "+1".repeat(198) + ";unknown x", 2, 402);
            fault("eq a:" + "+1".repeat(198) + ":;", 1, 401);
            fault("eq a:" + "+1".repeat(198) + "x;", 2, 402);
            fault("unknown x;eq a:+10x+1000;gauge g of y noise 4;", 5, 16);
            fault("unknown x;gauge g of y noise 4;eq a:+10x;", 4, 21);
            fault("unknown x;gauge x of y noise 4;eq a:+10x;", 3, 16);
        });
        Check.holds("of one place the least", () -> {
            // The 401st TOKEN is one with which no text goes on, too.
            fault("eq a:" + "+1".repeat(198) + "-;", 1, 402);
            fault("eq a:" + "+1".repeat(197) + "+?+1;", 1, 400);
            fault("eq a:" + "+1".repeat(198) + "+.", 1, 402);
            fault("eq a:" + "+1".repeat(198) + "-", 1, 402);
        });
        Check.holds("SYNTAX or ROOM behind goes ahead of TWICE, NAME and WRONG: if there is none, likewise", () -> {
            fault("unknown x;unknown x;eq", 1, 22);
            fault("eq a:+x;eq", 1, 10);
            fault("eq a:+1000;eq", 1, 13);
            fault("unknown x;eq a:+10x;gauge g of x noise 4;x", 1, 41);
            fault("eq a:+1000;" + SEVEN + "unknown x;", 2, 81);
            fault("eq a:+1000;eq a:" + "+1".repeat(193) + ";+", 1, 403);
            right("eq a:+100-1+0;" + "eq b:" + "+1".repeat(193) + ";");
            fault("eq a:+1000+x+y;" + "eq a:" + "+1".repeat(194) + ";", 2, 407);
        });
    }

    private static void twice() {
        String[] tells = {"unknown n;", "eq n:+1;", "gauge n of x;", "maybe n of x;", "fault n in e;"};
        for (String first : tells) {
            for (String second : tells) {
                Check.holds("TWICE: a NAME told already (of all kinds): " + first + second, () -> {
                    String s = "unknown x;eq e:+1;" + first + second;
                    fault(s, 3, 18 + first.length() + second.indexOf('n', second.indexOf(' ')));
                });
            }
        }
        Check.holds("TWICE: of as many NAMES as there is room for each is known", () -> {
            String all = SEVEN;
            for (char c = 'a'; c <= 'h'; c++) {
                all += "eq e" + c + ":+1;";
            }
            for (char c = 'a'; c <= 'f'; c++) {
                all += "gauge g" + c + " of " + c + ";";
            }
            for (char c = 'a'; c <= 'g'; c++) {
                all += "fault f" + c + " in e" + (char) (c + 1) + ";";
            }
            right(all + "fault z in gf;");
            fault(all + "fault f in gf;", 3, all.length() + 6);
            for (String name : "a g ea eh ga gf fa fg".split(" ")) {
                fault(all + "fault " + name + " in eh;", 3, all.length() + 6);
            }
            fault(all + "fault z in g;", 4, all.length() + 11);
            fault(all + "fault z in fg;", 4, all.length() + 11);
            fault(all + "fault z in z;", 4, all.length() + 11);
        });
        Check.holds("TWICE: an UNKNOWN that its EQ has named (at it)", () -> {
            fault("unknown x;eq a:+x+x;", 3, 18);
            fault("unknown x;eq a:+x-9x;", 3, 19);
            fault("unknown x;unknown y;eq a:+x+y+1-3 x;", 3, 34);
            right("unknown x;unknown y;eq a:+x+y;eq b:-x-y;");
        });
        Check.holds("TWICE: what one TELL names as another kind is none", () -> {
            right("unknown x;gauge g of x;gauge h of x;fault p in g;fault q in g;");
        });
    }

    private static void names4() {
        Check.holds("NAME: no such UNKNOWN told ahead (in a TERM)", () -> {
            fault("eq a:+x;", 4, 6);
            fault("eq a:+x;unknown x;", 4, 6);
            fault("eq a:+a;", 4, 6);
            fault("unknown x;eq a:+x-3y;", 4, 19);
            fault("unknown x;eq e:+1;eq a:+e;", 4, 24);
            fault("unknown x;gauge g of x;eq a:+g;", 4, 29);
        });
        Check.holds("NAME: no such UNKNOWN told ahead (behind of)", () -> {
            fault("gauge g of x;", 4, 11);
            fault("maybe g of x;unknown x;", 4, 11);
            fault("gauge g of g;", 4, 11);
            fault("eq a:+1;gauge g of a;", 4, 19);
        });
        Check.holds("NAME: no such EQ or GAUGE (behind in of a fault)", () -> {
            fault("fault f in a;", 4, 11);
            fault("fault f in f;", 4, 11);
            fault("unknown x;fault f in x;", 4, 21);
            fault("eq a:+1;fault f in a;fault g in f;", 4, 32);
            right("unknown x;eq a:+1;gauge g of x;maybe m of x;fault f in a;fault h in g;fault i in m;");
        });
    }

    private static void wrong() {
        Check.holds("WRONG: a POSITION above 3", () -> {
            right("eq a in 3:+1;");
            fault("eq a in 4:+1;", 5, 8);
            fault("eq a in 0,1,2,3,0,9999:+1;", 5, 18);
            fault("eq a in 32:+1;", 5, 8);
        });
        Check.holds("WRONG: an INT of a TERM with a NAME 0 or above 9", () -> {
            right("unknown x;eq a:+1x;eq b:-9x;eq c:+0001x;");
            fault("unknown x;eq a:+0x;", 5, 16);
            fault("unknown x;eq a:-0000 x;", 5, 16);
            fault("unknown x;eq a:+10x;", 5, 16);
            fault("unknown x;eq a:+999x;", 5, 16);
        });
        Check.holds("WRONG: an INT of a TERM without a NAME above 999", () -> {
            right("eq a:+999-999-0+0;");
            fault("eq a:+1000;", 5, 6);
            fault("eq a:+999-9999;", 5, 10);
        });
        Check.holds("WRONG: NOISE above 3", () -> {
            right("unknown x;gauge g of x noise 3;gauge h of x noise 0;");
            fault("unknown x;gauge g of x noise 4;", 5, 29);
            fault("unknown x;maybe g of x noise 9999 cost 1;", 5, 29);
        });
        Check.holds("WRONG: COST 0 or above 100", () -> {
            right("unknown x;gauge g of x cost 1;gauge h of x noise 1 cost 100;");
            fault("unknown x;gauge g of x cost 0;", 5, 28);
            fault("unknown x;maybe g of x noise 0 cost 101;", 5, 36);
            fault("unknown x;maybe g of x noise 0 cost 9999;", 5, 36);
        });
    }

    private static String state(GaugeNet x) {
        StringBuilder s = new StringBuilder();
        for (int what = 0; what < 18; what++) {
            s.append(what == 7 ? 0 : x.count(what)).append(' ');
        }
        for (int eq = 0; eq < 8; eq++) {
            for (int unknown = -1; unknown < 7; unknown++) {
                s.append(x.number(eq, unknown)).append(' ');
            }
        }
        for (int t = 0; t < 3; t++) {
            s.append(x.test(t)).append(' ').append(x.nought(t)).append(' ').append(x.bound(t)).append(' ');
        }
        for (int gauges = 0; gauges < 64; gauges++) {
            s.append(x.cost(gauges)).append(' ');
        }
        return s.append(x.net()).append(' ').append(x.positions()).toString();
    }

    private static void inPlace() {
        String told = "unknown x;unknown y;eq a in 0,2:+x-2y+5;eq b:+3y;gauge g of x noise 2 cost 7;maybe h of y;"
                + "gauge i of y cost 3;fault p in a;fault q in i;";
        String[] faulty = {"unknown", "unknown x;eq a:+1x;;", "unknown x;unknown x;", "eq a:+1000;", "eq b:+z;",
            SEVEN + "unknown h;", "unknown x;eq a:+1-7x;gauge g of x noise 3 cost 100;fault z in a;fault z in a;"};
        for (String text : faulty) {
            Check.holds("A text with a FAULT of it changes nothing: " + text, () -> {
                GaugeNet x = Check.of(told);
                x.position(2);
                x.in(1, true);
                x.in(2, false);
                x.dead(0, true);
                x.dead(0, false);
                x.dead(2, true);
                x.reading(0, 77);
                x.reading(1, -5);
                String before = state(x);
                Check.due("a fault", Check.read(x, text) != 0, true);
                Check.due("nothing has changed", state(x).equals(before), true);
            });
        }
        Check.holds("else it is in place of the one ahead, the POSITION is 0, nothing is DEAD, READINGS are 0", () -> {
            String fresh = state(Check.of(told));
            GaugeNet x = Check.of(told);
            x.position(3);
            x.in(0, false);
            x.in(1, true);
            x.dead(2, true);
            x.reading(0, 9999);
            x.reading(2, -9999);
            due("read", Check.read(x, told), 0);
            Check.due("as at first", state(x).equals(fresh), true);
        });
        Check.holds("in place of the one ahead: of a greater one nothing is left", () -> {
            GaugeNet x = Check.of(told);
            x.tests();
            x.reading(0, 9);
            due("read", x.read(), 0);
            Check.due("as a new one", state(x).equals(state(new GaugeNet())), true);
            due("read", Check.read(x, "unknown z;gauge k of z;"), 0);
            Check.due("as a new one with it", state(x).equals(state(Check.of("unknown z;gauge k of z;"))), true);
        });
    }

    private static void oneAfterAnother() {
        String old = "unknown x;unknown y;unknown z;eq a in 2:+2x-3y+9;eq b in 2:+5y+z;eq c:+1;gauge g of x noise 3 cost 9;"
                + "gauge h of x;maybe i of z noise 2;fault p in c;fault q in h;fault r in a;";
        String text = "unknown x;unknown y;eq a:+x;eq b:+4x+1;gauge g of y;gauge h of y cost 2;fault p in a;fault q in b;";
        Check.holds("in place of the one ahead: nothing is left of the third ahead either", () -> {
            String due = state(Check.of(text));
            GaugeNet x = new GaugeNet();
            for (int n = 0; n < 3; n++) {
                due("read", Check.read(x, old), 0);
                x.position(2);
                x.in(2, true);
                x.dead(0, true);
                x.dead(5, true);
                x.reading(0, 44);
                x.reading(1, -44);
                x.tests();
            }
            for (int n = 0; n < 3; n++) {
                due("read", Check.read(x, text), 0);
                Check.due("as on a new object", state(x).equals(due), true);
                x.position(3);
            }
        });
        Check.holds("in place of the one ahead: PAIRS, TESTS, WEIGHTS and SETS are of the new one", () -> {
            GaugeNet x = Check.of("unknown u;eq a:+2u;eq b:+3u+1;fault p in a;fault q in b;");
            due("pairs", x.pairs(), 1);
            due("weight", x.weight(0, 0), 3);
            due("sets", x.sets(false), 2);
            due("seen", x.seen(0), 1);
            due("read", Check.read(x, "unknown u;unknown v;eq a:+u;eq b:+v;gauge g of v;fault p in a;fault q in b;"), 0);
            due("seen", x.seen(0), 0);
            due("pairs", x.pairs(), 2);
            due("test", x.test(0), 258);
            due("weight", x.weight(0, 1), 1);
            due("sets", x.sets(false), 1);
            due("read", Check.read(x, "unknown u;eq a:+5u;eq b:+7u;fault p in a;"), 0);
            due("weight", x.weight(0, 0), 7);
            due("read", Check.read(x, "unknown u;eq a:+9u;eq b:+4u;fault p in a;"), 0);
            due("judged: first asked", x.judged(0, 3, 0), 3);
            due("weight", x.weight(0, 0), 4);
        });
        String[] faulty = {"unknown", SEVEN + "unknown h;", "unknown x;unknown x;", "eq a:+x;", "eq a:+1000;", "unknown x;;"};
        for (String first : faulty) {
            Check.holds("a FAULT is of its text alone: " + first, () -> {
                GaugeNet x = new GaugeNet();
                int number = Check.read(x, first);
                int place = x.place();
                Check.due("a fault", number > 0, true);
                due("read", Check.read(x, text), 0);
                due("place", x.place(), -1);
                due("read", Check.read(x, first), number);
                due("place", x.place(), place);
                for (String second : faulty) {
                    GaugeNet y = new GaugeNet();
                    int due = Check.read(y, second);
                    due("read", Check.read(x, second), due);
                    due("place", x.place(), y.place());
                }
                due("read", x.read(), 0);
                due("place", x.place(), -1);
            });
        }
        Check.holds("a NAME is told already of its text alone", () -> {
            GaugeNet x = new GaugeNet();
            due("read", Check.read(x, "unknown a;eq b:+a;"), 0);
            due("read", Check.read(x, "unknown b;eq a:+b;"), 0);
            due("read", Check.read(x, "gauge g of a;"), 4);
            due("read", Check.read(x, "eq g:+b;"), 4);
            due("read", Check.read(x, "fault g in a;"), 4);
        });
    }

    private static void numbers() {
        Check.holds("1 without an INT, and the sign is its own", () -> {
            GaugeNet x = Check.of("unknown x;unknown y;unknown z;eq a:+x-y+9z;eq b:-9x-1-2y;");
            int[] due = {0, 1, -1, 9};
            int[] dueB = {-1, -9, -2, 0};
            for (int u = -1; u < 3; u++) {
                due("number", x.number(0, u), due[u + 1]);
                due("number", x.number(1, u), dueB[u + 1]);
            }
        });
        Check.holds("of TERMS without a NAME a constant, their sum", () -> {
            GaugeNet x = Check.of("unknown x;eq a:+x;eq b:+999+999+999;eq c:-999-999+1;eq d:+0;eq e:" + "+999".repeat(180) + ";");
            int[] due = {0, 2997, -1997, 0, 179820};
            for (int eq = 0; eq < 5; eq++) {
                due("constant", x.number(eq, -1), due[eq]);
            }
            // A number below -10000 is a constant too, not what is told of no such ones.
            x = Check.of("eq e:" + "-999".repeat(190) + ";");
            due("constant", x.number(0, -1), -189810);
        });
        Check.holds("10: -10000: no such ones", () -> {
            GaugeNet x = Check.of("unknown x;unknown y;eq a in 1:+x;eq b:+y;gauge g of x;");
            int[] eqs = {-1, 2, 8, 14, 32, Integer.MAX_VALUE, Integer.MIN_VALUE};
            for (int eq : eqs) {
                due("number", x.number(eq, 0), -10000);
                due("number", x.number(eq, -1), -10000);
            }
            int[] unknowns = {-2, 2, 7, 32, Integer.MAX_VALUE, Integer.MIN_VALUE};
            for (int unknown : unknowns) {
                due("number", x.number(0, unknown), -10000);
            }
            due("number: the EQ need not hold", x.number(0, 0), 1);
        });
        Check.holds("it holds in the POSITIONS told (0 .. 3; without in: all)", () -> {
            GaugeNet x = Check.of("eq a:+1;eq b in 0:+1;eq c in 3,1:+1;eq d in 2,2:+1;eq e in 0,1,2,3:+1;");
            int[] due = {1 | 2 | 16, 1 | 4 | 16, 1 | 8 | 16, 1 | 4 | 16};
            for (int p = 0; p < 4; p++) {
                x.position(p);
                due("net", x.net(), due[p]);
            }
        });
        Check.holds("COST 1, NOISE 0 without; IN (gauge) or not (maybe)", () -> {
            GaugeNet x = Check.of("unknown x;maybe a of x;gauge b of x;gauge c of x noise 3;maybe d of x cost 100;");
            due("in", x.count(5), 6);
            due("dead", x.count(6), 0);
            due("cost", x.cost(1), 1);
            due("cost", x.cost(2), 1);
            due("cost", x.cost(15), 103);
            due("bound", x.bound(0), 3);
            due("nought", x.nought(0), 0);
        });
    }
}
