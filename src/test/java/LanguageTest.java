import java.lang.reflect.Constructor;
import java.lang.reflect.Field;
import java.lang.reflect.Method;
import java.lang.reflect.Modifier;
import java.nio.file.Files;
import java.nio.file.Path;
import java.util.ArrayList;
import java.util.HashSet;
import java.util.List;
import java.util.Set;
import java.util.TreeSet;
import java.util.regex.Matcher;
import java.util.regex.Pattern;

/** The document's face, and those rules of LANGUAGE.md that can be seen by a look at the file. */
public final class LanguageTest {
    private static final Path DOCUMENT = Path.of("../shared/DOC.md");
    private static final Path PROGRAM = Path.of("src/main/java/HouseInRoom.java");

    private static int wrong = 0;

    public static void main(String[] args) throws Exception {
        List<String> face = face(Files.readString(DOCUMENT));
        checkFace(face);
        checkClasses();
        checkText(Files.readString(PROGRAM));
        System.out.println(wrong == 0 ? "LanguageTest: all rules are kept" : wrong + " wrong");
        if (wrong != 0) {
            System.exit(1);
        }
    }

    private static void require(boolean holds, String what) {
        if (!holds) {
            wrong++;
            System.out.println(what);
        }
    }

    /** The methods of the document's face, each as "int door(int,int,int)". */
    private static List<String> face(String document) {
        List<String> face = new ArrayList<>();
        Matcher m = Pattern.compile("    public (int|long) (\\w+)\\(([^)]*)\\);").matcher(document);
        while (m.find()) {
            String types = m.group(3).replaceAll("int \\w+", "int").replace(" ", "");
            face.add(m.group(1) + " " + m.group(2) + "(" + types + ")");
        }
        return face;
    }

    private static void checkFace(List<String> face) {
        Class<?> c = HouseInRoom.class;
        require(Modifier.isFinal(c.getModifiers()), "the class is not final");
        Set<String> have = new TreeSet<>();
        Set<String> names = new HashSet<>();
        for (Method m : c.getDeclaredMethods()) {
            if (Modifier.isPublic(m.getModifiers())) {
                names.add(m.getName());
                StringBuilder types = new StringBuilder();
                for (Class<?> p : m.getParameterTypes()) {
                    types.append(types.length() == 0 ? "" : ",").append(p.getName());
                }
                have.add(m.getReturnType().getName() + " " + m.getName() + "(" + types + ")");
            } else {
                require(Modifier.isPrivate(m.getModifiers()), m + " is not private");
            }
        }
        require(face.size() == 53 && have.equals(new TreeSet<>(face)),
                "the face is " + have + ", due is " + face);
        require(c.getConstructors().length == 1, "not one public constructor");
        for (Constructor<?> k : c.getDeclaredConstructors()) {
            require(k.getParameterCount() == 0, k + " is not of the face");
        }
        for (Field f : c.getDeclaredFields()) {
            require(Modifier.isPrivate(f.getModifiers()), f + " is not private");
        }
        for (Class<?> inside : c.getDeclaredClasses()) {
            for (Method m : inside.getDeclaredMethods()) {
                require(!names.contains(m.getName()), m + " bears the name of a public one");
            }
        }
        for (Method m : c.getDeclaredMethods()) {
            require(Modifier.isPublic(m.getModifiers()) || !names.contains(m.getName()),
                    m + " bears the name of a public one");
        }
    }

    private static void checkClasses() {
        List<Class<?>> all = new ArrayList<>(List.of(HouseInRoom.class.getDeclaredClasses()));
        require(all.size() <= 11, "too many classes");
        for (Class<?> inside : all) {
            require(Modifier.isStatic(inside.getModifiers()), inside + " is not static");
        }
        all.add(HouseInRoom.class);
        for (Class<?> c : all) {
            int fields = 0;
            for (Field f : c.getDeclaredFields()) {
                boolean constant = Modifier.isStatic(f.getModifiers());
                require(!constant || Modifier.isFinal(f.getModifiers()), f + " is not final");
                require(!constant || f.getType().isPrimitive(), f + " is no constant");
                fields += constant ? 0 : 1;
            }
            require(fields <= 20, c + " has " + fields + " fields");
            for (Method m : c.getDeclaredMethods()) {
                require(m.getParameterCount() <= 7, m + " takes too many parameters");
            }
        }
    }

    private static void checkText(String program) {
        String code = program.replaceAll("(?s)/\\*.*?\\*/", "").replaceAll("//[^\n]*", "");
        for (String word : List.of("throw", "throws", "try", "catch", "finally", "synchronized",
                "assert", "package", "equals", "hashCode", "toString", "System.exit", "Exact",
                "double", "float", "->", "::", "@", "Object", "interface", "record", "volatile")) {
            String edge = Character.isLetter(word.charAt(0)) ? "\\b" : "";
            require(!Pattern.compile(edge + Pattern.quote(word) + edge).matcher(code).find(),
                    "the program has " + word);
        }
        require(code.chars().allMatch(sign -> sign < 128), "a sign above 127");
        Matcher imports = Pattern.compile("import ([\\w.]+);").matcher(code);
        while (imports.find()) {
            require(imports.group(1).equals("java.util.Arrays"), imports.group() + " stands there");
        }
        Matcher calls = Pattern.compile("\\b(Arrays|Math|System|Integer|Long)\\.(\\w+)").matcher(code);
        while (calls.find()) {
            require(Set.of("Arrays.fill", "System.arraycopy", "Math.min").contains(calls.group()),
                    calls.group() + " stands there");
        }
        checkLengths(code);
    }

    private static void checkLengths(String code) {
        int start = -1;
        String[] lines = code.split("\n");
        for (int i = 0; i < lines.length; i++) {
            if (lines[i].matches("( {4}| {8})[\\w].*\\) \\{")) {
                start = i;
            } else if (start >= 0 && lines[i].matches("( {4}| {8})\\}")
                    && lines[i].indexOf('}') == lines[start].length()
                            - lines[start].stripLeading().length()) {
                require(i - start + 1 <= 60, "a long method: " + lines[start]);
                start = -1;
            }
        }
    }
}
