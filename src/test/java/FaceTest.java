import java.lang.reflect.Constructor;
import java.lang.reflect.Field;
import java.lang.reflect.Method;
import java.lang.reflect.Modifier;
import java.nio.file.Files;
import java.nio.file.Path;
import java.util.ArrayList;
import java.util.List;
import java.util.Set;
import java.util.TreeSet;
import java.util.regex.Matcher;
import java.util.regex.Pattern;

/** The document's face, and nothing beside it that could be seen (rule 1 of LANGUAGE.md). */
public final class FaceTest {
    private static final Path DOCUMENT = Path.of("../shared/DOC.md");
    private static final int CALLS = 53;

    private static int wrong = 0;

    private FaceTest() {
    }

    public static void main(String[] args) throws Exception {
        Class<?> c = HouseInRoom.class;
        Set<String> due = face(Files.readString(DOCUMENT));
        require(due.size() == CALLS, "the document has " + due.size() + " calls");
        require(c.getPackageName().isEmpty(), "it is in a package");
        require(Modifier.isPublic(c.getModifiers()), "the class is not public");
        require(Modifier.isFinal(c.getModifiers()), "the class is not final");
        require(c.getSuperclass() == Object.class && c.getInterfaces().length == 0, "it is something else");
        checkMethods(c, due);
        checkOthers(c);
        System.out.println(wrong == 0 ? "FaceTest: the face is the document's" : wrong + " wrong");
        if (wrong != 0) {
            System.exit(1);
        }
    }

    private static void require(boolean holds, String what) {
        if (!holds) {
            wrong++;
            System.out.println(what);
        }
    }

    /** The methods of the document's face, each as "int door(int,int,int)". */
    private static Set<String> face(String document) {
        Set<String> face = new TreeSet<>();
        Matcher m = Pattern.compile("    public (int|long) (\\w+)\\(([^)]*)\\);").matcher(document);
        while (m.find()) {
            String types = m.group(3).replaceAll("int \\w+", "int").replace(" ", "");
            face.add(m.group(1) + " " + m.group(2) + "(" + types + ")");
        }
        return face;
    }

    private static void checkMethods(Class<?> c, Set<String> due) {
        Set<String> have = new TreeSet<>();
        Set<String> names = new TreeSet<>();
        List<Method> others = new ArrayList<>();
        for (Method m : c.getDeclaredMethods()) {
            if (Modifier.isPublic(m.getModifiers())) {
                List<String> types = new ArrayList<>();
                for (Class<?> p : m.getParameterTypes()) {
                    types.add(p.getName());
                }
                names.add(m.getName());
                have.add(m.getReturnType().getName() + " " + m.getName() + "("
                        + String.join(",", types) + ")");
                require(!Modifier.isStatic(m.getModifiers()), m + " is static");
            } else if (!m.isSynthetic()) {
                others.add(m);
            }
        }
        require(have.equals(due), "the face is " + have + ", due is " + due);
        for (Class<?> inside : c.getDeclaredClasses()) {
            for (Method m : inside.getDeclaredMethods()) {
                if (Modifier.isPrivate(m.getModifiers())) {
                    others.add(m);
                }
            }
        }
        for (Method m : others) {
            require(Modifier.isPrivate(m.getModifiers()), m + " is not private");
            require(!names.contains(m.getName()), m + " bears the name of a public one");
        }
    }

    private static void checkOthers(Class<?> c) {
        for (Constructor<?> k : c.getDeclaredConstructors()) {
            boolean isDue = k.getParameterCount() == 0 && Modifier.isPublic(k.getModifiers());
            require(isDue || Modifier.isPrivate(k.getModifiers()) || k.isSynthetic(),
                    k + " is not of the face");
        }
        require(c.getConstructors().length == 1, "not one public constructor");
        for (Field f : c.getDeclaredFields()) {
            require(Modifier.isPrivate(f.getModifiers()) || f.isSynthetic(), f + " is not private");
        }
        for (Class<?> inside : c.getDeclaredClasses()) {
            int m = inside.getModifiers();
            require(!Modifier.isPublic(m) && !Modifier.isProtected(m), inside + " can be seen");
            require(Modifier.isStatic(m), inside + " is not static");
        }
    }
}
