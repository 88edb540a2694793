import java.io.IOException;
import java.lang.reflect.Method;
import java.nio.file.Files;
import java.nio.file.Path;
import java.util.regex.Matcher;
import java.util.regex.Pattern;

/** What README.md tells of its text is what the class answers. */
public final class ReadmeTest {
    private static final Pattern TEXT = Pattern.compile("(?s)```text\n(.*?)```");
    private static final Pattern CALL = Pattern.compile("net\\.(\\w+)\\(([^)]*)\\); +// (-?\\d+|true|false)");

    public static void main(String[] args) throws IOException, ReflectiveOperationException {
        String page = Files.readString(Path.of("README.md"));
        Matcher text = TEXT.matcher(page);
        Check.due("a text in README.md", text.find(), true);
        GaugeNet net = new GaugeNet();
        Check.due("read()", Check.read(net, text.group(1)), 0);
        Matcher call = CALL.matcher(page);
        int calls = 0;
        while (call.find()) {
            Object got = answer(net, call.group(1), call.group(2));
            Check.due(call.group() + " (" + got + ")", got.toString().equals(call.group(3)), true);
            calls++;
        }
        Check.due("more than ten calls in README.md", calls > 10, true);
        Check.end();
    }

    private static Object answer(GaugeNet net, String name, String args) throws ReflectiveOperationException {
        String[] words = args.isEmpty() ? new String[0] : args.split(", ");
        for (Method m : GaugeNet.class.getMethods()) {
            if (m.getName().equals(name) && m.getParameterCount() == words.length) {
                Object[] values = new Object[words.length];
                for (int i = 0; i < words.length; i++) {
                    values[i] = valueOf(words[i], m.getParameterTypes()[i]);
                }
                return m.invoke(net, values);
            }
        }
        throw new NoSuchMethodException(name);
    }

    private static Object valueOf(String word, Class<?> type) {
        if (type == boolean.class) {
            return word.equals("true");
        }
        return type == long.class ? (Object) Long.valueOf(word) : (Object) Integer.valueOf(word);
    }
}
