import java.util.ArrayList;
import java.util.List;
import java.util.Map;

/**
 * A test of one sentence of the document: runs of calls, each on a new object, with the answers that
 * are due. src/test/edges/README.txt tells how they are written.
 */
final class Edge {
    static final Map<String, Integer> NAMES = Map.of("LOW", -1000001, "BEYOND", -1000001,
            "FULL", -1000002, "KIND", -1000003, "NONE", -1000004, "STATE", -1000005,
            "MISSING", -1000006, "SIZE", -1000007, "MIN", Integer.MIN_VALUE,
            "MAX", Integer.MAX_VALUE);
    private static final List<String> ASKS = List.of("of", "tell", "lie", "now", "book", "ways", "far",
            "task", "who", "can", "above", "strong", "kindFor", "place", "safe", "selves", "agree",
            "opens", "copies", "all", "weight", "deep", "ahead", "when", "as", "judge", "count");

    /** A call; due is null where any answer will do that is no finding. */
    record Row(String name, int[] args, Long due) {
        boolean isRefused() {
            return due != null && isFinding(due);
        }

        /** Whether the answer tells that the call was refused; z may be any number. */
        boolean isFinding(long answer) {
            boolean isDraw = name.equals("seed") || name.equals("count") && args[0] == 6;
            return !isDraw && answer <= NAMES.get("BEYOND") && answer >= NAMES.get("SIZE");
        }

        /** Whether nothing may change by it, but for what status() tells. */
        boolean changesNothing() {
            return isRefused() || ASKS.contains(name);
        }

        @Override
        public String toString() {
            StringBuilder text = new StringBuilder(name);
            for (int arg : args) {
                text.append(' ').append(arg);
            }
            return text.toString();
        }
    }

    final String section;
    final String sentence;
    final String origin;
    final List<List<Row>> runs = new ArrayList<>();

    Edge(String section, String sentence, String origin) {
        this.section = section;
        this.sentence = sentence;
        this.origin = origin;
        runs.add(new ArrayList<>());
    }

    /** Reads the edges of a file. */
    static List<Edge> read(String file, List<String> lines) {
        List<Edge> edges = new ArrayList<>();
        for (int i = 0; i < lines.size(); i++) {
            String line = lines.get(i).strip();
            if (line.startsWith("== ")) {
                int space = line.indexOf(' ', 3);
                edges.add(new Edge(line.substring(3, space), line.substring(space + 1),
                        file + ":" + (i + 1)));
            } else if (!line.isEmpty() && !line.startsWith("#")) {
                try {
                    edges.get(edges.size() - 1).addLine(line);
                } catch (RuntimeException e) {
                    throw new IllegalArgumentException(file + ":" + (i + 1) + ": " + line, e);
                }
            }
        }
        return edges;
    }

    private void addLine(String line) {
        if (line.equals("new")) {
            runs.add(new ArrayList<>());
            return;
        }
        for (String row : line.split(" \\| ")) {
            addRow(row.strip());
        }
    }

    private void addRow(String row) {
        int times = 1;
        String call = row;
        if (call.matches("\\d+ \\* .*")) {
            times = Integer.parseInt(call.substring(0, call.indexOf(' ')));
            call = call.substring(call.indexOf('*') + 1).strip();
        }
        Long due = null;
        int equals = call.lastIndexOf(" = ");
        if (equals >= 0) {
            due = number(call.substring(equals + 3).strip());
            call = call.substring(0, equals).strip();
        }
        for (int i = 0; i < times; i++) {
            addCall(call, due);
        }
    }

    private void addCall(String call, Long due) {
        if (call.startsWith("tape \"") || call.startsWith("text \"")) {
            feed(bytes(call.substring(6, call.length() - 1)));
            if (call.startsWith("text")) {
                addCall("text", due);
            }
            return;
        }
        String[] words = call.split(" +");
        int[] args = new int[words.length - 1];
        for (int i = 0; i < args.length; i++) {
            args[i] = (int) number(words[i + 1]);
        }
        runs.get(runs.size() - 1).add(new Row(words[0], args, due));
    }

    /** Feeds bytes, four by four. */
    private void feed(int[] bytes) {
        for (int i = 0; i < bytes.length; i += 4) {
            int n = Math.min(4, bytes.length - i);
            int word = 0;
            for (int k = 0; k < n; k++) {
                word = word << 8 | bytes[i + k];
            }
            runs.get(runs.size() - 1).add(new Row("feed", new int[] {word, n}, null));
        }
    }

    /** The bytes of a text; \xNN stands for any byte. */
    private static int[] bytes(String text) {
        List<Integer> bytes = new ArrayList<>();
        for (int i = 0; i < text.length(); i++) {
            if (text.startsWith("\\x", i)) {
                bytes.add(Integer.parseInt(text.substring(i + 2, i + 4), 16));
                i += 3;
            } else {
                bytes.add((int) text.charAt(i));
            }
        }
        return bytes.stream().mapToInt(b -> b).toArray();
    }

    private static long number(String word) {
        if (NAMES.containsKey(word)) {
            return NAMES.get(word);
        }
        if (word.startsWith("0b")) {
            return Long.parseLong(word.substring(2), 2);
        }
        return Long.decode(word);
    }
}
