import java.lang.reflect.Method;
import java.nio.file.Files;
import java.nio.file.Path;
import java.util.HashMap;
import java.util.Map;
import java.util.regex.Matcher;
import java.util.regex.Pattern;

/** README.md: each call of its example answers the number behind it, and its table has every call of the face. */
public final class ReadmeTest {
    private static final Pattern CALL =
        Pattern.compile("(?:int (\\w+) = )?lodge\\.(\\w+)\\((.*?)\\); +// (-?\\d+)(:.*)?");

    private final ChurchLodge lodge = new ChurchLodge();
    private final Map<String, Integer> names = new HashMap<>();
    private int calls;

    public static void main(String[] args) throws Exception {
        String text = Files.readString(Path.of(System.getProperty("readme", "README.md")));
        new ReadmeTest().example(text);
        table(text);
        for (String said : new String[] {"512 calls", ".ci/run", "`BAD` (-1)", "`NOT` (-2)", "`FULL` (-3)"}) {
            Check.dueTrue("README.md says " + said, text.contains(said));
        }
        Check.finish();
    }

    private void example(String text) throws Exception {
        int from = text.indexOf("```java\n");
        int till = text.indexOf("```\n", from + 8);
        Check.dueTrue("there is an example", from >= 0 && till > from);
        for (String line : text.substring(from + 8, till).split("\n")) {
            Matcher m = CALL.matcher(line);
            if (m.matches()) {
                int got = answer(m.group(2), m.group(3));
                Check.due("README.md: " + line, got, Integer.parseInt(m.group(4)));
                if (m.group(1) != null) {
                    names.put(m.group(1), got);
                }
                calls++;
            } else {
                Check.dueTrue("a line without an answer: " + line,
                    line.equals("ChurchLodge lodge = new ChurchLodge();"));
            }
        }
        Check.dueTrue("the example has calls", calls > 20 && calls <= 512);
    }

    private int answer(String name, String args) throws Exception {
        String[] told = args.isEmpty() ? new String[0] : args.split(", ");
        Object[] values = new Object[told.length];
        Class<?>[] types = new Class<?>[told.length];
        for (int i = 0; i < told.length; i++) {
            values[i] = names.containsKey(told[i]) ? names.get(told[i]) : Integer.decode(told[i]);
            types[i] = int.class;
        }
        return (Integer) ChurchLodge.class.getMethod(name, types).invoke(lodge, values);
    }

    private static void table(String text) {
        for (Method m : ChurchLodge.class.getDeclaredMethods()) {
            if (java.lang.reflect.Modifier.isPublic(m.getModifiers())) {
                Matcher row = Pattern.compile("\\| `" + m.getName() + "\\((.*?)\\)` \\|").matcher(text);
                boolean found = row.find();
                Check.dueTrue("README.md has a row for " + m.getName(), found);
                if (found) {
                    int told = row.group(1).isEmpty() ? 0 : row.group(1).split(", ").length;
                    Check.due("README.md: arguments of " + m.getName(), told, m.getParameterCount());
                }
            }
        }
    }
}
