import java.io.IOException;
import java.lang.reflect.InvocationTargetException;
import java.lang.reflect.Method;
import java.lang.reflect.Modifier;
import java.nio.file.Files;
import java.nio.file.Path;
import java.util.ArrayList;
import java.util.Arrays;
import java.util.List;
import java.util.Map;
import java.util.Set;
import java.util.TreeMap;
import java.util.TreeSet;
import java.util.regex.Matcher;
import java.util.regex.Pattern;
import java.util.stream.Collectors;
import java.util.stream.Stream;

/** README.md agrees with the class and with the tests: its example is run as it stands there. */
public final class ReadmeTest {
    private static final Due DUE = new Due("ReadmeTest");
    private static final Path TESTS = Path.of("src/test/java");
    private static final Pattern MADE = Pattern.compile("GuardHeap heap = new GuardHeap\\((.*?)\\);.*");
    private static final Pattern CALL = Pattern.compile("(?:int (\\w+) = )?heap\\.(\\w+)\\((.*?)\\); +// (true|false|-?\\d+)\\b.*");
    private static final Pattern QUOTED = Pattern.compile("`([^`]*)`");

    private static List<String> lines;

    public static void main(String[] args) throws IOException, ReflectiveOperationException {
        lines = Files.readAllLines(Path.of("README.md"));
        exampleAnswersAsItSays();
        callsAreTheFace();
        classesInsideAreTold();
        testsAreTold();
        DUE.end();
    }

    private static List<String> between(String first, String last) {
        int from = lines.indexOf(first);
        DUE.holds("there is a line " + first, from >= 0);
        List<String> found = new ArrayList<>();
        for (int i = from + 1; from >= 0 && i < lines.size() && !lines.get(i).equals(last); i++) {
            found.add(lines.get(i));
        }
        return found;
    }

    /** What stands in quotes in the first column of a table. */
    private static List<List<String>> firstColumn(String head) {
        List<List<String>> rows = new ArrayList<>();
        for (String line : between(head, "")) {
            List<String> names = QUOTED.matcher(line.split("\\|")[1]).results().map(m -> m.group(1)).toList();
            if (!names.isEmpty()) {
                rows.add(names);
            }
        }
        return rows;
    }

    private static int[] numbers(String text, Map<String, Integer> known) {
        if (text.isBlank()) {
            return new int[0];
        }
        return Arrays.stream(text.split(",")).mapToInt(sum -> Arrays.stream(sum.split("\\+"))
            .map(String::strip).mapToInt(term -> known.containsKey(term) ? known.get(term) : Integer.parseInt(term))
            .sum()).toArray();
    }

    private static int call(GuardHeap heap, String name, int[] with) throws ReflectiveOperationException {
        Class<?>[] types = new Class<?>[with.length];
        Arrays.fill(types, int.class);
        Method method = GuardHeap.class.getMethod(name, types);
        try {
            Object answer = method.invoke(heap, Arrays.stream(with).boxed().toArray());
            return answer instanceof Boolean b ? (b ? 1 : 0) : (Integer) answer;
        } catch (InvocationTargetException thrown) {
            throw new IllegalStateException(name + " threw " + thrown.getCause());
        }
    }

    private static int dueOf(String comment) {
        return switch (comment) {
            case "true" -> 1;
            case "false" -> 0;
            default -> Integer.parseInt(comment);
        };
    }

    private static void exampleAnswersAsItSays() throws ReflectiveOperationException {
        List<String> example = between("```java", "```");
        Matcher made = MADE.matcher(example.get(0));
        DUE.holds("the example begins with a new heap", made.matches());
        Map<String, Integer> known = new TreeMap<>();
        int[] with = numbers(made.group(1), known);
        GuardHeap heap = new GuardHeap(with[0], with[1], with[2]);
        for (String line : example.subList(1, example.size())) {
            Matcher m = CALL.matcher(line);
            boolean form = m.matches();
            DUE.holds("a call with its answer: " + line, form);
            if (form) {
                int answer = call(heap, m.group(2), numbers(m.group(3), known));
                DUE.is(line, answer, dueOf(m.group(4)));
                if (m.group(1) != null) {
                    known.put(m.group(1), answer);
                }
            }
        }
    }

    private static String told(String name, int parameters) {
        return name + " of " + parameters;
    }

    private static void callsAreTheFace() {
        Set<String> face = new TreeSet<>(Set.of(told("GuardHeap", GuardHeap.class.getConstructors()[0].getParameterCount())));
        for (Method m : GuardHeap.class.getDeclaredMethods()) {
            if (Modifier.isPublic(m.getModifiers())) {
                face.add(told(m.getName(), m.getParameterCount()));
            }
        }
        Set<String> calls = new TreeSet<>();
        for (List<String> row : firstColumn("| call | what it answers |")) {
            String call = row.get(0);
            String inside = call.substring(call.indexOf('(') + 1, call.length() - 1);
            calls.add(told(call.substring(0, call.indexOf('(')), inside.isEmpty() ? 0 : inside.split(",").length));
        }
        DUE.same("the calls", String.join("\n", calls), String.join("\n", face));
    }

    private static void classesInsideAreTold() {
        Set<String> inside = Arrays.stream(GuardHeap.class.getDeclaredClasses())
            .map(Class::getSimpleName).collect(Collectors.toCollection(TreeSet::new));
        Set<String> told = new TreeSet<>();
        firstColumn("| class inside | what it holds |").forEach(told::addAll);
        DUE.same("the classes inside", String.join("\n", told), String.join("\n", inside));
    }

    /** A row with two names stands for all tests from the one to the other. */
    private static void testsAreTold() throws IOException {
        Set<String> tests;
        try (Stream<Path> files = Files.list(TESTS)) {
            tests = files.map(f -> f.getFileName().toString()).filter(f -> f.endsWith("Test.java"))
                .map(f -> f.replace(".java", "")).collect(Collectors.toCollection(TreeSet::new));
        }
        Set<String> told = new TreeSet<>();
        for (List<String> row : firstColumn("| test | what it asks |")) {
            told.addAll(row);
            String last = row.get(row.size() - 1);
            tests.stream().filter(t -> t.compareTo(row.get(0)) > 0 && t.compareTo(last) < 0).forEach(told::add);
        }
        DUE.same("the tests", String.join("\n", told), String.join("\n", tests));
    }
}
