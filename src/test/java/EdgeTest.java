import java.io.IOException;
import java.nio.file.Files;
import java.nio.file.Path;
import java.util.ArrayList;
import java.util.List;
import java.util.Map;
import java.util.TreeMap;
import java.util.regex.Matcher;
import java.util.regex.Pattern;
import java.util.stream.Stream;

/**
 * The edges under src/test/edges: a test for each sentence of the document that names a boundary.
 * Each sentence must stand in the document, and no word of the document may be without an edge.
 */
public final class EdgeTest {
    private static final Path DOCUMENT = Path.of("../shared/DOC.md");
    private static final Path EDGES = Path.of("src/test/edges");
    /** What the document's terms say of the interface alone. */
    private static final Pattern FACE = Pattern.compile("Ahead of the calls [^\n]*");

    private EdgeTest() {
    }

    public static void main(String[] args) throws IOException {
        List<Edge> edges = edges();
        List<String> wrongs = wrongs(edges, HouseInRoom.class, false);
        wrongs.addAll(untested(edges, Files.readString(DOCUMENT)));
        wrongs.forEach(System.out::println);
        System.out.println(wrongs.isEmpty() ? "EdgeTest: all " + edges.size() + " edges hold"
                : wrongs.size() + " wrong");
        if (!wrongs.isEmpty()) {
            System.exit(1);
        }
    }

    static List<Edge> edges() throws IOException {
        List<Edge> edges = new ArrayList<>();
        try (Stream<Path> files = Files.list(EDGES)) {
            for (Path file : files.filter(f -> f.toString().endsWith(".edges")).sorted().toList()) {
                edges.addAll(Edge.read(file.getFileName().toString(), Files.readAllLines(file)));
            }
        }
        return edges;
    }

    /** What is wrong in a class that should be as the document says; perhaps the first alone. */
    static List<String> wrongs(List<Edge> edges, Class<?> program, boolean firstAlone) {
        List<String> wrongs = new ArrayList<>();
        EdgeRun run = new EdgeRun(program);
        for (Edge edge : edges) {
            try {
                run.run(edge);
            } catch (IllegalArgumentException e) {
                run.wrongs.add(e.toString());
            }
            for (String wrong : run.wrongs) {
                wrongs.add(edge.origin + ": " + edge.sentence + "\n    " + wrong);
            }
            run.wrongs.clear();
            if (firstAlone && !wrongs.isEmpty()) {
                break;
            }
        }
        return wrongs;
    }

    /** Sentences that stand nowhere in the document, and what of the document no sentence tells. */
    private static List<String> untested(List<Edge> edges, String document) {
        List<String> wrongs = new ArrayList<>();
        Map<String, StringBuilder> sections = sections(document);
        for (Edge edge : edges) {
            StringBuilder text = sections.get(edge.section);
            if (text == null || !mark(text, edge.sentence)) {
                wrongs.add(edge.origin + ": not in the document: " + edge.sentence);
            }
        }
        sections.forEach((section, text) -> {
            Matcher m = Pattern.compile("[!-~][ -~]*").matcher(text);
            while (m.find()) {
                if (m.group().matches(".*[A-Za-z0-9].*")) {
                    wrongs.add("section " + section + " has no edge for: " + m.group());
                }
            }
        });
        return wrongs;
    }

    /** Shifts all places where the sentence stands out of the plain signs; whether it stands there. */
    private static boolean mark(StringBuilder text, String sentence) {
        boolean isThere = false;
        for (int at = 0; at + sentence.length() <= text.length(); at++) {
            boolean isHere = true;
            for (int i = 0; i < sentence.length() && isHere; i++) {
                isHere = (text.charAt(at + i) & 0xff) == sentence.charAt(i);
            }
            for (int i = 0; i < sentence.length() && isHere; i++) {
                text.setCharAt(at + i, (char) (text.charAt(at + i) | 0x100));
            }
            isThere |= isHere;
        }
        return isThere;
    }

    /** What the terms (T) and each promise say, with single blanks. */
    private static Map<String, StringBuilder> sections(String document) {
        Map<String, StringBuilder> sections = new TreeMap<>();
        for (String part : document.split("\n## ")) {
            String body = part.substring(part.indexOf('\n') + 1);
            if (part.startsWith("Terms")) {
                String plain = FACE.matcher(body).replaceAll("").replaceAll("```(text)?", "")
                        .replaceAll("\n[1-3]\\. ", "\n").replaceAll("\\s+", " ");
                sections.put("T", new StringBuilder(plain));
            } else if (part.startsWith("Promise ")) {
                String number = part.substring(8, part.indexOf(':'));
                String said = body.substring(body.indexOf("`: ") + 3).replaceAll("\\s+", " ");
                sections.put(number, new StringBuilder(said));
            }
        }
        return sections;
    }
}
