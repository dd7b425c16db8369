import java.io.IOException;
import java.lang.reflect.Constructor;
import java.lang.reflect.Field;
import java.lang.reflect.Method;
import java.lang.reflect.Modifier;
import java.nio.file.Files;
import java.nio.file.Path;
import java.util.Arrays;
import java.util.Set;
import java.util.TreeSet;
import java.util.stream.Collectors;

/** The public face as the document writes it, and those rules of LANGUAGE.md that can be seen from outside. */
public final class FaceTest {
    private static final Path SOURCE = Path.of("src/main/java/HatHall.java");
    private static final Path DOCUMENT = Path.of("../shared/DOC.md");
    private static final Check check = new Check();

    public static void main(String[] args) throws IOException {
        face();
        hiddenMembers();
        classes();
        words();
        lengths();
        check.end();
    }

    private static void none(String what, Set<String> found) {
        check.same(what + ": " + found, found.size(), 0);
    }

    private static void face() throws IOException {
        Set<String> due = Files.readAllLines(DOCUMENT).stream().map(String::strip)
                .filter(line -> line.startsWith("public ") && line.endsWith(";"))
                .map(FaceTest::withoutNames).collect(Collectors.toCollection(TreeSet::new));
        Set<String> got = new TreeSet<>();
        for (Method m : HatHall.class.getDeclaredMethods()) {
            if (Modifier.isPublic(m.getModifiers())) {
                got.add("public " + m.getReturnType() + " " + m.getName() + parameters(m.getParameterTypes())
                        + thrown(m.getExceptionTypes()));
            }
        }
        for (Constructor<?> c : HatHall.class.getDeclaredConstructors()) {
            got.add("public HatHall" + parameters(c.getParameterTypes()) + thrown(c.getExceptionTypes()));
        }
        for (Field f : HatHall.class.getFields()) {
            got.add("public static final " + f.getType() + " " + f.getName());
        }
        check.same("methods in the document", due.size(), 36);
        Set<String> missing = new TreeSet<>(due);
        missing.removeAll(got);
        none("missing in the class", missing);
        got.removeAll(due);
        none("not in the document", got);
        check.yes("final", Modifier.isFinal(HatHall.class.getModifiers()));
    }

    private static String withoutNames(String line) {
        return line.replaceAll("(int|boolean|long) \\w+([,)])", "$1$2").replaceAll(" = -1", "").replace(";", "");
    }

    private static String parameters(Class<?>[] types) {
        return Arrays.stream(types).map(Class::getSimpleName).collect(Collectors.joining(", ", "(", ")"));
    }

    private static String thrown(Class<?>[] types) {
        return types.length == 0 ? "" : " throws " + types[0].getSimpleName();
    }

    private static void hiddenMembers() {
        Set<String> open = new TreeSet<>();
        Set<String> twice = new TreeSet<>();
        Set<String> names = new TreeSet<>();
        for (Method m : HatHall.class.getDeclaredMethods()) {
            if (Modifier.isPublic(m.getModifiers())) {
                names.add(m.getName());
            } else if (!Modifier.isPrivate(m.getModifiers())) {
                open.add(m.getName());
            }
        }
        for (Field f : HatHall.class.getDeclaredFields()) {
            if (!Modifier.isPrivate(f.getModifiers()) && !f.getName().equals("NONE")) {
                open.add(f.getName());
            }
        }
        for (Class<?> c : allClasses()) {
            for (Method m : c.getDeclaredMethods()) {
                if (!Modifier.isPublic(m.getModifiers()) && names.contains(m.getName())) {
                    twice.add(m.getName());
                }
            }
        }
        none("rule 1, open members", open);
        none("rule 1, hidden methods with a public one's name", twice);
    }

    private static Set<Class<?>> allClasses() {
        Set<Class<?>> all = new java.util.LinkedHashSet<>(Arrays.asList(HatHall.class.getDeclaredClasses()));
        all.add(HatHall.class);
        return all;
    }

    private static void classes() {
        check.yes("rule 11, twelve classes at most", allClasses().size() <= 12);
        for (Class<?> c : allClasses()) {
            int fields = 0;
            for (Field f : c.getDeclaredFields()) {
                boolean isStatic = Modifier.isStatic(f.getModifiers());
                fields += isStatic ? 0 : 1;
                check.yes("rule 5, " + f.getName(), !isStatic || Modifier.isFinal(f.getModifiers()));
            }
            check.yes("rule 11, fields of " + c.getSimpleName(), fields <= 20);
            check.yes("rule 1, " + c.getSimpleName(), c == HatHall.class || Modifier.isStatic(c.getModifiers()));
            for (Method m : c.getDeclaredMethods()) {
                check.yes("rule 11, " + m.getName(), m.getParameterCount() <= 7);
            }
        }
    }

    private static void words() throws IOException {
        String source = Files.readString(SOURCE);
        String[] banned = {"->", "::", "synchronized", "finally", "assert", "Exact(", "catch", "try", "System.out",
            "Random", "nanoTime", "currentTimeMillis", "package ", "native", "volatile", "hashCode", ".equals(this"};
        for (String word : banned) {
            check.no("banned: " + word, source.contains(word));
        }
        for (String line : source.split("\n")) {
            if (line.startsWith("import ")) {
                check.yes(line, line.equals("import java.util.Arrays;")
                        || line.equals("import java.util.NoSuchElementException;"));
            }
            check.yes("a line's length: " + line, line.length() <= 120);
            check.yes("plain signs: " + line, line.chars().allMatch(c -> c >= 32 && c < 127));
        }
    }

    private static void lengths() throws IOException {
        int start = 0;
        int number = 0;
        String name = "";
        for (String line : Files.readAllLines(SOURCE)) {
            number++;
            String text = line.strip();
            if (text.endsWith(") {") && (line.matches(" {4}\\S.*") || line.matches(" {8}\\S.*"))) {
                start = number;
                name = text;
            }
            if (text.equals("}") && start > 0) {
                check.yes("rule 11, sixty lines: " + name, number - start <= 60);
            }
            if (line.equals("    }") || line.equals("        }")) {
                start = 0;
            }
        }
    }
}
