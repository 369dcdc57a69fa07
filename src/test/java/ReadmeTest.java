import java.io.IOException;
import java.lang.reflect.Method;
import java.lang.reflect.Modifier;
import java.nio.file.Files;
import java.nio.file.Path;
import java.util.ArrayList;
import java.util.HashMap;
import java.util.HashSet;
import java.util.List;
import java.util.Map;
import java.util.Set;
import java.util.TreeSet;
import java.util.regex.Matcher;
import java.util.regex.Pattern;

/**
 * README.md: each answer that its examples tell is given, each call of the face stands in one of them,
 * and the files, tests and classes that it names are there.
 */
public final class ReadmeTest {
    private static final Path README = Path.of("README.md");
    private static final Path TESTS = Path.of("src/test/java");
    private static final Pattern BLOCK = Pattern.compile("(?s)```java\n(.*?)```");
    private static final Pattern NEW = Pattern.compile("HouseInRoom (\\w+) = new HouseInRoom\\(\\);");
    private static final Pattern CALL = Pattern.compile(
            "(?:(int|long) (\\w+) = )?(\\w+)\\.(\\w+)\\(([^()]*)\\); +// ([-\\w]+)(?:[:,;] \\S.*)?");
    private static final Map<String, Long> FINDINGS = Map.of("BEYOND", -1000001L, "FULL", -1000002L,
            "KIND", -1000003L, "NONE", -1000004L, "STATE", -1000005L, "MISSING", -1000006L,
            "SIZE", -1000007L);

    private final Map<String, Method> face = new HashMap<>();
    private final Set<String> shown = new HashSet<>();
    private final List<String> wrongs = new ArrayList<>();
    private final Map<String, HouseInRoom> houses = new HashMap<>();
    private final Map<String, Long> numbers = new HashMap<>();

    private ReadmeTest() {
        for (Method m : HouseInRoom.class.getDeclaredMethods()) {
            if (Modifier.isPublic(m.getModifiers())) {
                face.put(m.getName(), m);
            }
        }
    }

    public static void main(String[] args) throws Exception {
        ReadmeTest test = new ReadmeTest();
        String readme = Files.readString(README);
        Matcher blocks = BLOCK.matcher(readme);
        while (blocks.find()) {
            test.runBlock(blocks.group(1));
        }
        Set<String> unshown = new TreeSet<>(test.face.keySet());
        unshown.removeAll(test.shown);
        test.require(unshown.isEmpty(), "no example of " + unshown);
        test.checkFindings(readme);
        test.checkNames(readme);
        test.wrongs.forEach(System.out::println);
        System.out.println(test.wrongs.isEmpty() ? "ReadmeTest: all that README.md tells is so"
                : test.wrongs.size() + " wrong");
        if (!test.wrongs.isEmpty()) {
            System.exit(1);
        }
    }

    private void require(boolean holds, String what) {
        if (!holds) {
            wrongs.add(what);
        }
    }

    /** Names that a block tells are known in that block alone. */
    private void runBlock(String block) throws ReflectiveOperationException {
        houses.clear();
        numbers.clear();
        for (String line : block.split("\n")) {
            if (!line.isBlank()) {
                runLine(line.strip());
            }
        }
    }

    private void runLine(String line) throws ReflectiveOperationException {
        Matcher made = NEW.matcher(line);
        if (made.matches()) {
            require(houses.put(made.group(1), new HouseInRoom()) == null, "twice: " + line);
            return;
        }
        Matcher call = CALL.matcher(line);
        if (!call.matches() || !houses.containsKey(call.group(3)) || !face.containsKey(call.group(4))) {
            wrongs.add("no call with an answer: " + line);
            return;
        }
        Method m = face.get(call.group(4));
        Object[] args = arguments(call.group(5));
        if (args.length != m.getParameterCount()) {
            wrongs.add("other arguments: " + line);
            return;
        }
        shown.add(m.getName());
        long got = ((Number) m.invoke(houses.get(call.group(3)), args)).longValue();
        require(got == number(call.group(6)), line + "\n    answered " + got);
        if (call.group(1) != null) {
            require(m.getReturnType().getName().equals(call.group(1)), "another type: " + line);
            require(numbers.put(call.group(2), got) == null, "twice: " + line);
        }
    }

    private Object[] arguments(String text) {
        List<Object> args = new ArrayList<>();
        for (String word : text.split(",")) {
            if (!word.isBlank()) {
                args.add((int) number(word.strip()));
            }
        }
        return args.toArray();
    }

    private long number(String word) {
        if (numbers.containsKey(word)) {
            return numbers.get(word);
        }
        if (FINDINGS.containsKey(word)) {
            return FINDINGS.get(word);
        }
        try {
            return word.startsWith("0b") ? Long.parseLong(word.substring(2), 2) : Long.decode(word);
        } catch (NumberFormatException e) {
            wrongs.add("no number: " + word);
            return Long.MIN_VALUE;
        }
    }

    /** The table of findings: each with its number. */
    private void checkFindings(String readme) {
        FINDINGS.forEach((name, number) -> require(Pattern.compile(
                "(?m)^\\| " + name + " \\| " + number + " \\| \\S").matcher(readme).find(),
                "no line for " + name + ", " + number));
    }

    private void checkNames(String readme) throws IOException {
        Matcher paths = Pattern.compile("(?:src|\\.ci|\\.\\./shared)/[\\w./*-]*\\w|\\w+\\.md").matcher(readme);
        while (paths.find()) {
            require(Files.exists(Path.of(paths.group())), "there is no " + paths.group());
        }
        Set<String> named = new TreeSet<>();
        Matcher tests = Pattern.compile("`(\\w+Test)`").matcher(readme);
        while (tests.find()) {
            named.add(tests.group(1));
        }
        Set<String> due = new TreeSet<>();
        try (var files = Files.list(TESTS)) {
            files.map(f -> f.getFileName().toString()).filter(f -> f.endsWith("Test.java"))
                    .forEach(f -> due.add(f.substring(0, f.length() - 5)));
        }
        require(named.equals(due), "the tests named are " + named + ", there are " + due);
        Matcher runs = Pattern.compile("java -cp build/own (\\w+)").matcher(readme);
        while (runs.find()) {
            require(Files.exists(TESTS.resolve(runs.group(1) + ".java")), "there is no " + runs.group(1));
        }
    }
}
