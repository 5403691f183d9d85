import java.lang.reflect.Method;
import java.lang.reflect.Modifier;
import java.nio.file.Files;
import java.nio.file.Path;
import java.util.ArrayList;
import java.util.Collections;
import java.util.List;

/** The public face, and what LANGUAGE.md rules out of the source. */
public final class FaceTest {
    private static final String[] FACE = {"about/2", "arch/5", "as/2", "bear/5", "bitter/1", "count/1", "down/1",
        "edit/2", "end/2", "falls/1", "feed/2", "frost/1", "gift/1", "lay/1", "left/2", "may/1", "month/1", "needs/1",
        "part/3", "prop/2", "statute/1", "strike/1", "support/2", "tell/3", "wanted/2", "work/0"};

    public static void main(String[] args) throws Exception {
        methods();
        fieldsAndClasses();
        source(Files.readString(Path.of(System.getProperty("main", "src/main/java/ChurchLodge.java"))));
        Check.finish();
    }

    private static void methods() {
        List<String> found = new ArrayList<>();
        for (Method m : ChurchLodge.class.getDeclaredMethods()) {
            if (Modifier.isPublic(m.getModifiers())) {
                found.add(m.getName() + "/" + m.getParameterCount());
                Check.dueTrue(m.getName() + " answers an int", m.getReturnType() == int.class);
                Check.dueTrue(m.getName() + " is an object's", !Modifier.isStatic(m.getModifiers()));
                for (Class<?> type : m.getParameterTypes()) {
                    Check.dueTrue(m.getName() + " takes ints", type == int.class);
                }
            } else {
                Check.dueTrue(m.getName() + " is private", Modifier.isPrivate(m.getModifiers()));
                dueNoNameOfTheFace(m);
            }
        }
        Collections.sort(found);
        Check.dueTrue("the public methods: " + found, found.equals(List.of(FACE)));
        Check.due("constructors", ChurchLodge.class.getDeclaredConstructors().length, 1);
        Check.due("public constructors without arguments", publicConstructors(), 1);
        Check.dueTrue("the class is final", Modifier.isFinal(ChurchLodge.class.getModifiers()));
        Check.dueTrue("the class is public", Modifier.isPublic(ChurchLodge.class.getModifiers()));
        Check.dueTrue("the class has no package", ChurchLodge.class.getPackageName().isEmpty());
    }

    private static int publicConstructors() {
        int found = 0;
        for (var c : ChurchLodge.class.getConstructors()) {
            found += c.getParameterCount() == 0 ? 1 : 0;
        }
        return found;
    }

    /** Rule 1; and rule 11, of a method's parameters. */
    private static void dueNoNameOfTheFace(Method m) {
        for (String face : FACE) {
            Check.dueTrue(m.getName() + " isn't a name of the face", !face.startsWith(m.getName() + "/"));
        }
        Check.dueTrue(m.getName() + " takes at most seven", m.getParameterCount() <= 7);
    }

    private static void fieldsAndClasses() {
        for (var f : ChurchLodge.class.getDeclaredFields()) {
            boolean constant = List.of("BAD", "NOT", "FULL").contains(f.getName());
            Check.dueTrue(f.getName() + " is seen as it should be",
                constant ? Modifier.isPublic(f.getModifiers()) : Modifier.isPrivate(f.getModifiers()));
            if (Modifier.isStatic(f.getModifiers())) {
                Check.dueTrue(f.getName() + " is final", Modifier.isFinal(f.getModifiers()));
            }
        }
        Check.due("BAD", ChurchLodge.BAD, -1);
        Check.due("NOT", ChurchLodge.NOT, -2);
        Check.due("FULL", ChurchLodge.FULL, -3);
        Class<?>[] inside = ChurchLodge.class.getDeclaredClasses();
        Check.dueTrue("at most twelve classes", inside.length <= 11);
        for (Class<?> c : inside) {
            int seen = c.getModifiers();
            Check.dueTrue(c.getName() + " is static", Modifier.isStatic(seen));
            Check.dueTrue(c.getName() + " is not seen", !Modifier.isPublic(seen) && !Modifier.isProtected(seen));
            Check.dueTrue(c.getName() + " has at most twenty fields", c.getDeclaredFields().length <= 20);
            for (Method m : c.getDeclaredMethods()) {
                dueNoNameOfTheFace(m);
            }
        }
    }

    private static void source(String text) {
        String[] words = {"throw", "try", "catch", "synchronized", "assert", "package", "static \\{", "Exact",
            "System\\.(?!arraycopy)", "hashCode", "toString"};
        for (String word : words) {
            boolean found = java.util.regex.Pattern.compile("\\b" + word).matcher(text).find();
            Check.dueTrue("no '" + word + "' in the source", !found);
        }
        List<String> library =
            List.of("import java.util.Arrays;", "import java.util.ArrayList;", "import java.util.List;");
        for (String line : text.split("\n")) {
            Check.dueTrue("only what rule 4 lists: " + line, !line.startsWith("import ") || library.contains(line));
        }
        Check.dueTrue("no other name of a package", !java.util.regex.Pattern.compile("(?m)^(?!import ).*\\bjavax?\\.")
            .matcher(text).find());
        Check.dueTrue("no lambda", !text.contains("->"));
        Check.dueTrue("no method reference", !text.contains("::"));
    }
}
