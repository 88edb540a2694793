import java.io.IOException;
import java.lang.reflect.Method;
import java.lang.reflect.Modifier;
import java.nio.file.Files;
import java.nio.file.Path;
import java.util.Set;
import java.util.TreeSet;

/** The document's face is there and no more, and the source keeps to what of LANGUAGE.md can be seen by its words. */
public final class FaceTest {
    private static final String[] FACE = {
        "int feed(int,int,int,int,int)", "int back(int)", "int read()", "int place()", "boolean position(int)",
        "boolean in(int,boolean)", "boolean dead(int,boolean)", "boolean reading(int,int)", "int number(int,int)",
        "int net()", "int pairs()", "int row(int)", "int unknown(int)", "int tests()", "int test(int)",
        "int parts(int,int)", "int seen(int)", "int parted(int,int)", "int told(int)", "int adding(boolean)",
        "int taking()", "int positions()", "int cost(int)", "int uses(int,int)", "int use(int,int,int)",
        "int ring(int,int)", "int runs(int)", "long weight(int,int)", "long nought(int)", "long bound(int)",
        "int rings(int)", "long from(int,int)", "int odds(int,int,int,long)", "int sets(boolean)",
        "int set(boolean,int)", "int look()", "int hide(int,int)", "int still(int)", "int judged(int,int,int)",
        "int mistaken(int,int)", "int count(int)"};
    private static final String[] BARRED = {"throw", "throws", "try", "catch", "synchronized", "assert", "protected",
        "float", "double", "hashCode", "toString", "Object", "System.out"};

    public static void main(String[] args) throws IOException {
        Set<String> due = new TreeSet<>();
        for (String m : FACE) {
            due.add(m);
        }
        Set<String> names = new TreeSet<>();
        Set<String> found = new TreeSet<>();
        for (Method m : GaugeNet.class.getDeclaredMethods()) {
            if (Modifier.isPrivate(m.getModifiers())) {
                names.add(m.getName());
                continue;
            }
            StringBuilder s = new StringBuilder(m.getReturnType().getName()).append(' ').append(m.getName()).append('(');
            for (Class<?> p : m.getParameterTypes()) {
                s.append(s.charAt(s.length() - 1) == '(' ? "" : ",").append(p.getName());
            }
            found.add(s.append(')').toString());
        }
        Check.due("the face " + found, found.equals(due), true);
        for (String m : FACE) {
            String name = m.substring(m.indexOf(' ') + 1, m.indexOf('('));
            Check.due("a private " + name, names.contains(name), false);
        }
        Check.due("NONE", GaugeNet.NONE, -1);
        Check.due("public fields", GaugeNet.class.getFields().length, 1);
        Check.due("public constructors", GaugeNet.class.getConstructors().length, 1);
        Check.due("final", Modifier.isFinal(GaugeNet.class.getModifiers()), true);
        readSource();
        Check.end();
    }

    private static void readSource() throws IOException {
        String source = Files.readString(Path.of("src/main/java/GaugeNet.java"));
        String code = source.replaceAll("(?s)/\\*.*?\\*/", "").replaceAll("//[^\n]*", "").replaceAll("\"[^\"\n]*\"", "\"\"");
        for (String word : BARRED) {
            Check.due("the word " + word, code.matches("(?s).*\\b" + word + "\\b.*"), false);
        }
        Check.due("->", code.contains("->"), false);
        Check.due("::", code.contains("::"), false);
        Check.due("imports", code.split("\nimport ").length - 1 + (code.startsWith("import ") ? 1 : 0), 1);
        Check.due("a package", code.contains("package "), false);
    }
}
