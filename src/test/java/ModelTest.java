import java.lang.reflect.Method;
import java.lang.reflect.Modifier;
import java.util.ArrayList;
import java.util.Arrays;
import java.util.HashMap;
import java.util.List;
import java.util.Map;
import java.util.Random;

/** Long runs of drawn calls, each answered by the program and by the Model; both must agree. */
public final class ModelTest {
    private static final int RUNS = 60;
    private static final int CALLS = 512;
    private static final int[] ODD = {Integer.MIN_VALUE, Integer.MIN_VALUE + 1, -1000001, -2, -1, 41,
        61, 101, 121, 1000, 65536, 2000000001, Integer.MAX_VALUE - 1, Integer.MAX_VALUE};
    private static final String[] WORDS = {"thing", "chair", "table", "bed", "letter", "key", "lamp",
        "one", "open", "shut", "small", "gate", "slip", "in", "bulk", "level", "strong", ";", ";",
        ";", "0", "3", "7", "8", "60", "61", "100", "101", "1000", "007", "4294967296", "A", "#",
        "\t", "\u00e9", "inn", "on"};

    private final Random random;
    private final HouseInRoom program = new HouseInRoom();
    private final Model model = new Model();
    private final List<String> past = new ArrayList<>();
    private final Map<String, Method> calls;
    private final Map<Long, Integer> answers;
    private boolean failed;

    private ModelTest(long seed, Map<String, Method> calls, Map<Long, Integer> answers) {
        random = new Random(seed);
        this.calls = calls;
        this.answers = answers;
    }

    public static void main(String[] args) throws Exception {
        Map<String, Method> calls = new HashMap<>();
        for (Method m : HouseInRoom.class.getDeclaredMethods()) {
            if (Modifier.isPublic(m.getModifiers())) {
                calls.put(m.getName(), m);
            }
        }
        Map<Long, Integer> findings = new HashMap<>();
        int runs = args.length > 0 ? Integer.parseInt(args[0]) : RUNS;
        for (int run = 0; run < runs; run++) {
            if (!new ModelTest(run, calls, findings).go()) {
                System.exit(1);
            }
        }
        for (long f = Model.BEYOND; f >= Model.SIZE; f--) {
            if (findings.getOrDefault(f, 0) == 0) {
                System.out.println("ModelTest never met finding " + f);
                System.exit(1);
            }
        }
        System.out.println("ModelTest: all answers agree");
    }

    private boolean go() throws Exception {
        List<String> names = new ArrayList<>(calls.keySet());
        names.sort(null);
        prepare();
        while (past.size() < CALLS && !failed) {
            int luck = random.nextInt(100);
            String name = names.get(random.nextInt(names.size()));
            if (luck < 3) {
                feedText(drawText());
                name = "text";
            } else if (luck < 12) {
                name = Arrays.asList("reach", "carry", "walk", "in", "out", "lift").get(
                        random.nextInt(6));
            } else if (luck < 15) {
                path();
                name = "judge";
            }
            once(name, arguments(name, calls.get(name).getParameterCount()));
        }
        return !failed;
    }

    private void prepare() throws Exception {
        int ones = random.nextInt(5);
        for (int i = 0; i < ones; i++) {
            once("one", random.nextInt(3) == 0 ? random.nextInt(40) : random.nextInt(8));
            once("person", i, 1, random.nextInt(random.nextBoolean() ? 61 : 12));
        }
        int things = random.nextInt(9);
        for (int i = 0; i < things; i++) {
            once("thing", random.nextInt(7), random.nextInt(8));
            once("change", i, 2, 1 + random.nextInt(60));
        }
        int doors = random.nextInt(12);
        for (int i = 0; i < doors; i++) {
            once("door", random.nextInt(8), random.nextInt(8), random.nextInt(2));
        }
    }

    private void once(String name, int... args) throws Exception {
        Object[] boxed = new Object[args.length];
        for (int i = 0; i < args.length; i++) {
            boxed[i] = args[i];
        }
        long due = model.call(name, args);
        long got;
        try {
            got = ((Number) calls.get(name).invoke(program, boxed)).longValue();
        } catch (java.lang.reflect.InvocationTargetException e) {
            e.getCause().printStackTrace(System.out);
            got = Long.MIN_VALUE;
        }
        past.add(name + Arrays.toString(args) + " = " + due);
        if (due <= Model.BEYOND) {
            answers.merge(due, 1, Integer::sum);
        }
        if (got != due && !failed) {
            failed = true;
            for (String line : past) {
                System.out.println(line);
            }
            System.out.println("the program answered " + got);
        }
    }

    private int[] arguments(String name, int n) {
        int[] args = new int[n];
        for (int i = 0; i < n; i++) {
            args[i] = argument(name, i);
            if (random.nextInt(60) == 0) {
                args[i] = ODD[random.nextInt(ODD.length)];
            } else if (random.nextInt(200) == 0) {
                args[i] = random.nextInt();
            }
        }
        return args;
    }

    private int upTo(int most) {
        return random.nextInt(most + 1);
    }

    private int aOne() {
        return random.nextInt(12) == 0 ? 4 : upTo(Math.max(0, model.house.people.size() - 1));
    }

    private int aThing() {
        return random.nextInt(12) == 0 ? 8 : upTo(Math.max(0, model.house.things.size() - 1));
    }

    private int aRoom() {
        return random.nextInt(30) == 0 ? 8 : upTo(7);
    }

    /** An argument that is mostly as it should be: o one, t thing, r room, other letters below. */
    private int argument(String name, int i) {
        String forms = FORMS.get(name);
        switch (forms.charAt(i)) {
            case 'o': return aOne();
            case 't': return aThing();
            case 'r': return aRoom();
            case 'q': return 10 * aRoom() + aThing();
            case 'b': return upTo(2) - (random.nextInt(9) == 0 ? 1 : 0);
            case 'k': return upTo(7);
            case 'w': return upTo(8);
            case 'p': return upTo(40);
            case 'v': return random.nextBoolean() ? upTo(7) : upTo(61);
            case 'h': return upTo(10);
            case 'n': return random.nextBoolean() ? upTo(12) : upTo(63);
            case 'N': return upTo(31);
            case 'V': return random.nextBoolean() ? upTo(300) : random.nextInt(2000000000);
            case 'd': return random.nextInt(3) == 0 ? upTo(61) : upTo(5);
            case 's': return upTo(random.nextInt(8) == 0 ? 4 : 3);
            case 'x': return random.nextInt(12) - 1;
            case 'z': return random.nextInt();
            case 'c': return random.nextInt(6) == 0 ? upTo(41) : upTo(8);
            case 'B': return new int[] {0, 8, 8, 16, 16, 32, 32, 7}[random.nextInt(8)];
            case 'l': return random.nextInt(12) == 0 ? upTo(41) : upTo(12);
            case 'W': return random.nextInt(4) == 0 ? random.nextInt() : upTo(9);
            default: return upTo(8) - 1;
        }
    }

    private static final Map<String, String> FORMS = new HashMap<>();

    static {
        String[] forms = {"door rrb", "rule bv", "thing kr", "of tw", "change tbv", "one p",
            "person obv", "tell ob", "lie r", "walk or", "in o", "out o", "carry otr", "reach otr",
            "lift oor", "now w", "book nw", "ways o", "far op", "task otr", "who tr", "can ot",
            "above ot", "strong otr", "kindFor otr", "place otr", "safe ", "selves ", "agree oqoq",
            "opens otr", "copies hn", "all hn", "weight hNb", "deep hV", "days d", "ahead dw",
            "when tr", "seed z", "feed zw", "wipe ", "text ", "hold xt", "as xk", "sheet sBl",
            "write scW", "copy scscc", "load s", "judge so", "image ", "undo ", "tear ", "count w",
            "status i"};
        for (String form : forms) {
            int space = form.indexOf(' ');
            FORMS.put(form.substring(0, space), form.substring(space + 1));
        }
    }

    /** A text that is right, or right up to some token, or any tokens at all. */
    private String drawText() {
        StringBuilder text = new StringBuilder();
        int items = 1 + random.nextInt(6);
        for (int i = 0; i < items; i++) {
            if (i > 0) {
                text.append(random.nextBoolean() ? ";" : " ; ");
            }
            text.append(drawItem());
        }
        if (random.nextInt(3) == 0) {
            int at = random.nextInt(text.length() + 1);
            text.insert(at, WORDS[random.nextInt(WORDS.length)]);
        }
        if (random.nextInt(5) == 0) {
            text.setLength(random.nextInt(text.length() + 1));
        }
        if (random.nextInt(5) == 0) {
            text.append("  ");
        }
        text.setLength(Math.min(text.length(), 120));
        return text.toString();
    }

    private String drawItem() {
        int luck = random.nextInt(16);
        if (luck < 6) {
            return Model.KINDS.get(random.nextInt(7)) + perhaps(" in ", 8) + perhaps(" bulk ", 61);
        }
        if (luck < 10) {
            return "one" + perhaps(" in ", 8) + perhaps("level", 5) + perhaps(" strong  ", 61);
        }
        if (luck < 13) {
            return (random.nextBoolean() ? "open " : "shut ") + random.nextInt(8) + " "
                    + random.nextInt(9);
        }
        return new String[] {"small ", "gate", "slip "}[luck - 13] + random.nextInt(8);
    }

    private String perhaps(String word, int bound) {
        return random.nextBoolean() ? word + random.nextInt(bound) : "";
    }

    private void feedText(String text) throws Exception {
        if (random.nextInt(10) != 0) {
            once("wipe");
        }
        for (int i = 0; i < text.length(); i += 4) {
            int n = Math.min(4, text.length() - i);
            int bytes = random.nextInt();
            for (int k = 0; k < n; k++) {
                bytes = bytes << 8 | text.charAt(i + k);
            }
            once("feed", bytes, n);
        }
    }

    /** Writes a way of someone on a sheet, perhaps with a wrong place in it. */
    private void path() throws Exception {
        if (model.house.people.isEmpty()) {
            return;
        }
        int n = random.nextInt(6);
        once("sheet", 0, random.nextBoolean() ? 8 : 32, n);
        int one = random.nextInt(model.house.people.size());
        Model.House h = model.house.copy();
        for (int i = 0; i < n; i++) {
            once("write", 0, i, random.nextInt(9) == 0 ? random.nextInt(43) - 1
                    : h.people.get(one).place());
            for (int trial = 0; trial < 12; trial++) {
                int room = random.nextInt(8);
                int way = random.nextInt(3);
                if (Model.can(() -> way == 0 ? h.in(one) : way == 1 ? h.out(one)
                        : h.walk(one, room))) {
                    break;
                }
            }
        }
        once("judge", 0, one);
    }
}
