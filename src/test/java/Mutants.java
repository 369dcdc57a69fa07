import java.io.ByteArrayOutputStream;
import java.io.IOException;
import java.io.OutputStream;
import java.net.URI;
import java.nio.file.Files;
import java.nio.file.Path;
import java.util.ArrayList;
import java.util.HashMap;
import java.util.List;
import java.util.Map;
import java.util.concurrent.ExecutorService;
import java.util.concurrent.Executors;
import java.util.concurrent.Future;
import java.util.concurrent.TimeUnit;
import java.util.regex.Matcher;
import java.util.regex.Pattern;
import javax.tools.FileObject;
import javax.tools.ForwardingJavaFileManager;
import javax.tools.JavaCompiler;
import javax.tools.JavaFileManager;
import javax.tools.JavaFileObject;
import javax.tools.SimpleJavaFileObject;
import javax.tools.ToolProvider;

/**
 * Breaks the program in one place after the other, and tells which of these mutants no edge finds.
 * No test of .ci/run: it takes some minutes, and some mutants answer all as it is due.
 */
public final class Mutants {
    private static final Path PROGRAM = Path.of("src/main/java/HouseInRoom.java");
    private static final int SECONDS = 20;
    /** What is replaced, and by what. */
    private static final String[][] SIGNS = {
        {" < ", " <= "}, {" <= ", " < "}, {" > ", " >= "}, {" >= ", " > "}, {" == ", " != "},
        {" != ", " == "}, {"&&", "||"}, {"||", "&&"}, {" + ", " - "}, {" - ", " + "}, {" * ", " + "},
        {" / ", " * "}, {" % ", " / "}, {" >>> ", " << "}, {" >>> ", " >> "}, {" >> ", " << "},
        {" << ", " >>> "}, {" & ", " | "}, {" | ", " & "}, {" |= ", " = "}, {" &= ", " |= "},
        {"++;", "--;"}, {" += ", " -= "}, {" += ", " = "}, {"!", ""}, {"~", ""},
        {"finding(BEYOND)", "finding(NONE)"}, {"finding(FULL)", "finding(BEYOND)"},
        {"finding(KIND)", "finding(MISSING)"}, {"finding(NONE)", "finding(BEYOND)"},
        {"finding(STATE)", "finding(BEYOND)"}, {"finding(MISSING)", "finding(BEYOND)"},
        {"finding(SIZE)", "finding(BEYOND)"}, {"finding(", "("}};
    private static final Pattern NUMBER = Pattern.compile("(?<![\\w.])\\d+(?![\\w.])");
    private static final Pattern STATEMENT =
            Pattern.compile("(?m)^ +(?!return|break|int|long|final|private|static)[\\w.\\[\\] +*()-]+"
                    + "( [-+*/|&]?= .*|\\+\\+|\\(.*\\));$");
    private static final Pattern CONDITION = Pattern.compile("\\bif \\((.*)\\) \\{$", Pattern.MULTILINE);

    /** The program with a place changed. */
    record Mutant(int at, int end, String by) {
        String of(String program) {
            return program.substring(0, at) + by + program.substring(end);
        }
    }

    private Mutants() {
    }

    public static void main(String[] args) throws Exception {
        String program = Files.readString(PROGRAM);
        List<Edge> edges = EdgeTest.edges();
        List<Mutant> mutants = mutants(program);
        ExecutorService threads = Executors.newCachedThreadPool(task -> {
            Thread thread = new Thread(task);
            thread.setDaemon(true);
            return thread;
        });
        int found = 0;
        int wrongJava = 0;
        int lanes = Runtime.getRuntime().availableProcessors();
        for (int first = 0; first < mutants.size(); first += lanes) {
            List<Future<Integer>> answers = new ArrayList<>();
            for (int i = first; i < Math.min(first + lanes, mutants.size()); i++) {
                String text = mutants.get(i).of(program);
                answers.add(threads.submit(() -> isFound(text, edges)));
            }
            for (int i = 0; i < answers.size(); i++) {
                int answer = answerOf(answers.get(i));
                found += answer == 1 ? 1 : 0;
                wrongJava += answer < 0 ? 1 : 0;
                if (answer == 0) {
                    tell(program, mutants.get(first + i));
                }
            }
        }
        System.out.println(found + " of " + (mutants.size() - wrongJava) + " mutants are found");
        System.exit(0);
    }

    private static void tell(String program, Mutant m) {
        int line = (int) program.substring(0, m.at).chars().filter(sign -> sign == '\n').count() + 1;
        int begin = program.lastIndexOf('\n', m.at) + 1;
        int end = program.indexOf('\n', m.end);
        System.out.println(line + ": " + program.substring(begin, m.at).stripLeading() + "[["
                + program.substring(m.at, m.end) + " => " + m.by + "]]"
                + program.substring(m.end, end));
    }

    private static List<Mutant> mutants(String program) {
        // Comments are blanks, so that nothing in them is changed.
        String code = blank(blank(program, "(?s)/\\*.*?\\*/"), "//[^\n]*");
        code = blank(code, "(?m)^import .*$");
        List<Mutant> mutants = new ArrayList<>();
        for (String[] sign : SIGNS) {
            for (int at = code.indexOf(sign[0]); at >= 0; at = code.indexOf(sign[0], at + 1)) {
                mutants.add(new Mutant(at, at + sign[0].length(), sign[1]));
            }
        }
        Matcher number = NUMBER.matcher(code);
        while (number.find()) {
            long v = Long.parseLong(number.group());
            if (v < Integer.MAX_VALUE) {
                mutants.add(new Mutant(number.start(), number.end(), "" + (v + 1)));
                mutants.add(new Mutant(number.start(), number.end(), v == 0 ? "(-1)" : "" + (v - 1)));
            }
        }
        Matcher statement = STATEMENT.matcher(code);
        while (statement.find()) {
            mutants.add(new Mutant(statement.start(), statement.end(), ";"));
        }
        Matcher condition = CONDITION.matcher(code);
        while (condition.find()) {
            mutants.add(new Mutant(condition.start(1), condition.end(1),
                    "true || (" + condition.group(1) + ")"));
            mutants.add(new Mutant(condition.start(1), condition.end(1),
                    "false && (" + condition.group(1) + ")"));
        }
        return mutants;
    }

    private static String blank(String text, String pattern) {
        Matcher m = Pattern.compile(pattern).matcher(text);
        return m.replaceAll(r -> r.group().replaceAll("[^\n]", " "));
    }

    private static int answerOf(Future<Integer> answer) throws Exception {
        try {
            return answer.get(SECONDS, TimeUnit.SECONDS);
        } catch (java.util.concurrent.TimeoutException e) {
            return 1;
        }
    }

    /** 1 if an edge finds it, 0 if none does, -1 if it is no Java. */
    private static int isFound(String text, List<Edge> edges) {
        Map<String, ByteArrayOutputStream> classes = compile(text);
        if (classes == null) {
            return -1;
        }
        ClassLoader loader = new ClassLoader(null) {
            @Override
            protected Class<?> findClass(String name) throws ClassNotFoundException {
                ByteArrayOutputStream bytes = classes.get(name);
                if (bytes == null) {
                    throw new ClassNotFoundException(name);
                }
                return defineClass(name, bytes.toByteArray(), 0, bytes.size());
            }
        };
        try {
            Class<?> mutant = loader.loadClass("HouseInRoom");
            return EdgeTest.wrongs(edges, mutant, true).isEmpty() ? 0 : 1;
        } catch (ClassNotFoundException e) {
            return -1;
        } catch (RuntimeException | Error e) {
            return 1;
        }
    }

    private static Map<String, ByteArrayOutputStream> compile(String text) {
        JavaCompiler compiler = ToolProvider.getSystemJavaCompiler();
        Map<String, ByteArrayOutputStream> classes = new HashMap<>();
        JavaFileManager files = new ForwardingJavaFileManager<>(
                compiler.getStandardFileManager(d -> { }, null, null)) {
            @Override
            public JavaFileObject getJavaFileForOutput(Location location, String name,
                    JavaFileObject.Kind kind, FileObject sibling) {
                return new SimpleJavaFileObject(URI.create("mem:///" + name), kind) {
                    @Override
                    public OutputStream openOutputStream() {
                        ByteArrayOutputStream bytes = new ByteArrayOutputStream();
                        classes.put(name, bytes);
                        return bytes;
                    }
                };
            }
        };
        JavaFileObject source = new SimpleJavaFileObject(URI.create("mem:///HouseInRoom.java"),
                JavaFileObject.Kind.SOURCE) {
            @Override
            public CharSequence getCharContent(boolean ignoreEncodingErrors) {
                return text;
            }
        };
        boolean isRight = compiler.getTask(null, files, d -> { }, List.of("-proc:none"), null,
                List.of(source)).call();
        return isRight ? classes : null;
    }
}
