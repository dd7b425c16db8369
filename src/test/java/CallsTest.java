import java.io.PrintWriter;
import java.io.StringWriter;
import java.util.ArrayList;
import java.util.List;
import java.util.Map;
import java.util.Optional;
import java.util.Set;
import java.util.TreeMap;
import java.util.TreeSet;
import java.util.regex.Matcher;
import java.util.regex.Pattern;
import java.util.spi.ToolProvider;

/** Who calls whom in the compiled class: rules 4, 8 and 11 of LANGUAGE.md, which its source alone doesn't show. */
public final class CallsTest {
    private static final int MOST_DEEP = 8;
    private static final Pattern METHOD = Pattern.compile("^  (?:\\S+ )*([\\w$]+)\\(.*\\).*;$");
    private static final Pattern CALL = Pattern.compile("// (?:Interface)?Method ([^:]+):");
    private static final Check check = new Check();

    /** Of each method of the class those that it calls, its own and the library's. */
    private final Map<String, Set<String>> calls = new TreeMap<>();
    private final Set<String> privateStatics = new TreeSet<>();
    /** Of each method those that it reaches by calls. */
    private final Map<String, Set<String>> reach = new TreeMap<>();

    public static void main(String[] args) {
        Optional<ToolProvider> javap = ToolProvider.findFirst("javap");
        if (javap.isEmpty()) {
            System.out.println("this Java can't show compiled classes, so nothing is asked");
            return;
        }
        CallsTest test = new CallsTest();
        test.read(javap.get(), HatHall.class);
        for (Class<?> inside : HatHall.class.getDeclaredClasses()) {
            test.read(javap.get(), inside);
        }
        test.noteReach();
        test.library();
        test.recursion();
        test.depths();
        check.end();
    }

    private void read(ToolProvider javap, Class<?> one) {
        StringWriter shown = new StringWriter();
        String path = System.getProperty("java.class.path");
        int code = javap.run(new PrintWriter(shown), new PrintWriter(System.err), "-p", "-c", "-cp", path,
                one.getName());
        check.same("javap of " + one.getName(), code, 0);
        String method = "";
        for (String line : shown.toString().split("\\R")) {
            Matcher start = METHOD.matcher(line);
            Matcher call = CALL.matcher(line);
            if (start.matches()) {
                String name = start.group(1).equals(one.getName()) ? "<init>" : start.group(1);
                method = one.getName() + "." + name;
                calls.putIfAbsent(method, new TreeSet<>());
                if (line.contains("private static ")) {
                    privateStatics.add(method);
                }
            } else if (call.find()) {
                String called = call.group(1).replace("\"", "");
                calls.get(method).add(called.contains(".") ? called : one.getName() + "." + called);
            }
        }
    }

    private void noteReach() {
        for (String method : calls.keySet()) {
            Set<String> met = new TreeSet<>();
            List<String> open = new ArrayList<>(calls.get(method));
            while (!open.isEmpty()) {
                String next = open.remove(open.size() - 1);
                if (calls.containsKey(next) && met.add(next)) {
                    open.addAll(calls.get(next));
                }
            }
            reach.put(method, met);
        }
    }

    private void library() {
        Set<String> allowed = Set.of("java/lang/Object.<init>", "java/lang/System.arraycopy",
                "java/util/Arrays.fill", "java/util/Arrays.copyOf", "java/lang/Integer.bitCount",
                "java/lang/Math.floorMod", "java/lang/Math.max", "java/lang/Math.min",
                "java/lang/String.length", "java/lang/String.charAt",
                "java/lang/IllegalArgumentException.<init>", "java/util/NoSuchElementException.<init>");
        check.yes("methods were found", calls.size() > 100);
        for (String method : calls.keySet()) {
            for (String called : calls.get(method)) {
                check.yes("rule 4, " + method + " calls " + called,
                        calls.containsKey(called) || allowed.contains(called));
            }
        }
    }

    private boolean together(String a, String b) {
        return a.equals(b) || reach.get(a).contains(b) && reach.get(b).contains(a);
    }

    /** Only where the depth is carried as an argument. */
    private void recursion() {
        Set<String> deep = new TreeSet<>();
        for (String method : calls.keySet()) {
            if (reach.get(method).contains(method)) {
                deep.add(method.substring(method.indexOf('$') + 1));
            }
        }
        Set<String> due = Set.of("Net.placeFrom", "Cover.choose", "Reader.readOr", "Reader.readAnd", "Reader.readNot",
                "Reader.readTest", "Reader.readSum", "Reader.readProduct", "Reader.readPart");
        check.yes("rule 8, methods that come back to themselves: " + deep, deep.equals(due));
        for (String method : calls.keySet()) {
            check.yes("rule 8, " + method + " calls itself",
                    !calls.get(method).contains(method) || privateStatics.contains(method));
        }
    }

    private void depths() {
        for (String method : calls.keySet()) {
            List<String> way = longestWay(method);
            check.yes("rule 11, eight deep: " + way, way.size() <= MOST_DEEP);
        }
    }

    /** The longest way down from a method; methods that call one another count as one. */
    private List<String> longestWay(String method) {
        List<String> longest = new ArrayList<>();
        for (String same : calls.keySet()) {
            for (String next : together(method, same) ? calls.get(same) : Set.<String>of()) {
                if (calls.containsKey(next) && !together(method, next)) {
                    List<String> way = longestWay(next);
                    longest = way.size() > longest.size() ? way : longest;
                }
            }
        }
        longest.add(0, method);
        return longest;
    }
}
