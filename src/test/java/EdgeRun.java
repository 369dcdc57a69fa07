import java.lang.reflect.InvocationTargetException;
import java.lang.reflect.Method;
import java.util.ArrayList;
import java.util.Arrays;
import java.util.HashMap;
import java.util.List;
import java.util.Map;

/**
 * Runs the calls of an edge, and then looks at all that the object tells. A twin does the same calls
 * but for those that may change nothing; both must look alike.
 */
final class EdgeRun {
    private static final int MOST_CALLS = 512;
    private static final int FINDINGS = 7;

    private final Map<String, Method> methods = new HashMap<>();
    private final Class<?> program;
    /** What was wrong, a line each. */
    final List<String> wrongs = new ArrayList<>();

    private Object house;
    private int calls;
    private List<String> seen;

    EdgeRun(Class<?> program) {
        this.program = program;
        for (Method m : program.getMethods()) {
            methods.put(m.getName(), m);
        }
    }

    void run(Edge edge) {
        for (List<Edge.Row> rows : edge.runs) {
            List<String> whole = runRows(rows, false);
            List<String> twin = runRows(rows, true);
            int common = Math.min(whole.size(), twin.size());
            for (int i = 0; i < common; i++) {
                if (!whole.get(i).equals(twin.get(i))) {
                    wrongs.add("calls that may change nothing changed " + whole.get(i)
                            + ", due is " + twin.get(i));
                    return;
                }
            }
        }
    }

    /** Does the rows on a new object, and looks at it. */
    private List<String> runRows(List<Edge.Row> rows, boolean isTwin) {
        begin();
        int[] tallies = new int[FINDINGS];
        for (Edge.Row row : rows) {
            if (isTwin && (row.changesNothing() || row.name().equals("status"))) {
                continue;
            }
            if (calls >= MOST_CALLS) {
                throw new IllegalArgumentException("more than 512 calls");
            }
            long got = call(row.name(), row.args());
            boolean isDue = row.due() == null ? !row.isFinding(got) : got == row.due();
            if (!isDue) {
                wrongs.add(row + (isTwin ? " (without those that are refused)" : "") + " answered "
                        + got + ", due is " + (row.due() == null ? "no finding" : row.due()));
            }
            if (row.isRefused()) {
                tallies[(int) (Edge.NAMES.get("BEYOND") - row.due())]++;
            }
        }
        look(tallies);
        return seen;
    }

    private void begin() {
        calls = 0;
        seen = new ArrayList<>();
        try {
            house = program.getConstructor().newInstance();
        } catch (ReflectiveOperationException e) {
            throw new IllegalStateException(e);
        }
    }

    private long call(String name, int... args) {
        Method m = methods.get(name);
        if (m == null || m.getParameterCount() != args.length) {
            throw new IllegalArgumentException("no such call: " + name + Arrays.toString(args));
        }
        Object[] boxed = new Object[args.length];
        for (int i = 0; i < args.length; i++) {
            boxed[i] = args[i];
        }
        calls++;
        try {
            return ((Number) m.invoke(house, boxed)).longValue();
        } catch (InvocationTargetException e) {
            wrongs.add(name + Arrays.toString(args) + " threw " + e.getCause());
            return Long.MIN_VALUE;
        } catch (IllegalAccessException e) {
            throw new IllegalStateException(e);
        }
    }

    /** Looks at something, if there are calls left; what was seen is put down. */
    private long see(String name, int... args) {
        if (calls >= MOST_CALLS) {
            return Long.MIN_VALUE;
        }
        long answer = call(name, args);
        seen.add(name + Arrays.toString(args) + " = " + answer);
        return answer;
    }

    private void look(int[] tallies) {
        lookAtStatus(tallies);
        lookAtHouse();
        lookAtSheets();
        see("text");
        see("undo");
        lookAtHouse();
        see("tear");
    }

    /** What status() tells differs from the twin's, and so is compared with what was due alone. */
    private void lookAtStatus(int[] tallies) {
        for (int which = -1; which < FINDINGS && calls < MOST_CALLS; which++) {
            long due = which < 0 ? Arrays.stream(tallies).sum() : tallies[which];
            long got = call("status", which);
            if (got != due) {
                wrongs.add("status " + which + " at the end answered " + got + ", due is " + due);
            }
        }
    }

    private void lookAtHouse() {
        for (int what = 0; what < 8; what++) {
            see("count", what);
        }
        for (int what = 0; what < 7; what++) {
            see("now", what);
        }
        long people = see("count", 2);
        for (int one = 0; one < people; one++) {
            see("tell", one, 0);
            see("tell", one, 1);
        }
        long things = see("count", 1);
        for (int thing = 0; thing < things; thing++) {
            see("of", thing, 0);
            see("of", thing, 1);
            see("of", thing, 2);
        }
        for (int spot = 0; spot < 10; spot++) {
            see("as", spot, 0);
        }
        for (int a = 0; a < 8; a++) {
            for (int b = a + 1; b < 8; b++) {
                see("door", a, b, 0);
            }
        }
        long books = see("now", 6);
        for (int i = 0; i < books; i++) {
            for (int what = 0; what < 5; what++) {
                see("book", i, what);
            }
        }
    }

    /** Looks at the sheets, by the rooms of things to which their numbers are brought. */
    private void lookAtSheets() {
        boolean isAny = false;
        for (int s = 0; s < 4; s++) {
            isAny |= see("load", s) >= 0;
        }
        if (!isAny) {
            return;
        }
        for (long things = see("count", 1); things >= 0 && things < 8; things++) {
            see("thing", 0, 0);
        }
        for (int s = 0; s < 4; s++) {
            lookAtSheet(s);
        }
    }

    private void lookAtSheet(int s) {
        if (see("load", s) < 0) {
            return;
        }
        long length = 0;
        while (length < 40 && see("copy", s, 0, s, 0, (int) length + 1) >= 0) {
            length++;
        }
        int at = 0;
        while (at < length && calls < MOST_CALLS) {
            int n = (int) Math.min(8, length - at);
            see("copy", s, at, s, 0, n);
            long came = see("load", s);
            for (int thing = 0; thing < came; thing++) {
                see("of", thing, 1);
            }
            at += came < 0 || came >= n ? n : (int) came + 1;
        }
        see("write", s, 0, 256 + 5);
        see("load", s);
        see("write", s, 0, 65536 + 5);
        see("load", s);
    }
}
