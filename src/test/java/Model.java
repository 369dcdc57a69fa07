import java.math.BigInteger;
import java.util.ArrayDeque;
import java.util.ArrayList;
import java.util.Arrays;
import java.util.HashMap;
import java.util.List;
import java.util.Map;
import java.util.regex.Matcher;
import java.util.regex.Pattern;

/**
 * The document told a second time, as plainly and slowly as it can be: what a task needs is found by
 * doing steps on copies of the house. ModelTest compares it with the program.
 */
final class Model {
    static final int BEYOND = -1000001;
    static final int FULL = -1000002;
    static final int KIND = -1000003;
    static final int NONE = -1000004;
    static final int STATE = -1000005;
    static final int MISSING = -1000006;
    static final int SIZE = -1000007;
    static final List<String> KINDS =
            List.of("thing", "chair", "table", "bed", "letter", "key", "lamp");
    static final int[] ABOVE = {-1, 0, 1, 2, 0, 4, 0};

    static final class Finding extends RuntimeException {
        private static final long serialVersionUID = 1L;
        final int code;

        Finding(int code) {
            super(null, null, false, false);
            this.code = code;
        }
    }

    static final class Thing {
        int kind;
        int room;
        int bulk;

        Thing(int kind, int room, int bulk) {
            this.kind = kind;
            this.room = room;
            this.bulk = bulk;
        }

        int weighs(int level) {
            return weighsAs(kind, level);
        }

        int weighsAs(int k, int level) {
            switch (k) {
                case 0: return (int) (bulk / Math.pow(2, level));
                case 1: return weighsAs(0, level) + 1;
                case 2: return 2 * weighsAs(1, level);
                case 3: return weighsAs(2, level) + 5;
                case 4: return 1;
                case 5: return 0;
                default: return bulk;
            }
        }
    }

    static final class One {
        int level;
        int room;
        int strong;

        One(int place, int strong) {
            level = place / 8;
            room = place % 8;
            this.strong = strong;
        }

        int place() {
            return 8 * level + room;
        }
    }

    static final class House {
        final boolean[][] open;
        int small = 3;
        int gate = 0;
        int slip = 0;
        int z = 1;
        int day = 0;
        int moves = 0;
        int met = 0;
        List<Thing> things = new ArrayList<>();
        List<One> people = new ArrayList<>();
        List<int[]> books = new ArrayList<>();
        final int[] spots;

        House() {
            open = new boolean[8][8];
            spots = new int[10];
            for (int r = 0; r < 7; r++) {
                open[r][r + 1] = true;
                open[r + 1][r] = true;
            }
            Arrays.fill(spots, -1);
        }

        private House(boolean[][] doors, int[] held) {
            open = doors;
            spots = held;
        }

        House copy() {
            House h = new House();
            for (int r = 0; r < 8; r++) {
                h.open[r] = open[r].clone();
            }
            h.small = small;
            h.gate = gate;
            h.slip = slip;
            h.z = z;
            h.day = day;
            h.moves = moves;
            h.met = met;
            for (Thing t : things) {
                h.things.add(new Thing(t.kind, t.room, t.bulk));
            }
            for (One o : people) {
                h.people.add(new One(o.place(), o.strong));
            }
            h.books.addAll(books);
            System.arraycopy(spots, 0, h.spots, 0, spots.length);
            return h;
        }

        /** A house of the same doors with one of the people and one thing (none below 0) alone. */
        House only(int one, int thing) {
            House h = new House(open, spots);
            h.small = small;
            h.gate = gate;
            h.people.add(new One(people.get(one).place(), people.get(one).strong));
            if (thing >= 0) {
                Thing t = things.get(thing);
                h.things.add(new Thing(t.kind, t.room, t.bulk));
            }
            return h;
        }

        int walk(int one, int room) {
            One o = people.get(one);
            require(open[o.room][room], STATE);
            o.room = room;
            return o.place();
        }

        int in(int one) {
            One o = people.get(one);
            require(o.room == small && o.level < 4, STATE);
            o.room = gate;
            o.level++;
            return o.place();
        }

        int out(int one) {
            One o = people.get(one);
            require(o.room == gate && o.level > 0, STATE);
            o.room = small;
            o.level--;
            return o.place();
        }

        int carry(int one, int thing, int room) {
            One o = people.get(one);
            Thing t = things.get(thing);
            require(t.room == o.room && t.weighs(o.level) <= o.strong, STATE);
            int whence = o.room;
            walk(one, room);
            t.room = room;
            int hit = 0;
            for (One other : people) {
                if (other != o && other.room == room) {
                    hit++;
                }
            }
            return note(one, thing, whence, room, hit);
        }

        int reach(int one, int thing, int room) {
            One o = people.get(one);
            Thing t = things.get(thing);
            require(o.room == small && o.level < 4, STATE);
            require(t.weighs(o.level + 1) <= o.strong && t.room != room, STATE);
            int whence = t.room;
            t.room = room;
            int hit = 0;
            for (One other : people) {
                if (other.room == room) {
                    hit++;
                }
            }
            return note(one, thing, whence, room, hit);
        }

        private int note(int one, int thing, int whence, int whither, int hit) {
            moves++;
            met += hit;
            books.add(0, new int[] {one, thing, whence, whither, hit});
            if (books.size() > 12) {
                books.remove(12);
            }
            return hit;
        }

        int lift(int one, int other, int room) {
            One o = people.get(one);
            One p = people.get(other);
            require(o.room == small && p.level == o.level + 1 && p.room != room, STATE);
            p.room = room;
            return ++moves;
        }

        int draw() {
            z = (int) (z * 1103515245L + 12345L);
            return (int) ((z & 0xffffffffL) / 256);
        }

        void dayGoes() {
            for (int i = 0; i < people.size(); i++) {
                int one = i;
                int room = draw() % 8;
                can(() -> walk(one, room));
                One o = people.get(one);
                if (!things.isEmpty() && o.room == small && o.level < 4) {
                    int thing = draw() % things.size();
                    int aim = draw() % 8;
                    int to = draw() % 100 < slip ? (aim == 7 ? 0 : aim + 1) : aim;
                    can(() -> reach(one, thing, to));
                }
            }
            day++;
        }
    }

    interface Act {
        int go();
    }

    static boolean can(Act act) {
        try {
            act.go();
            return true;
        } catch (Finding f) {
            return false;
        }
    }

    static void require(boolean holds, int finding) {
        if (!holds) {
            throw new Finding(finding);
        }
    }

    static final class Paper {
        int bits;
        int[] row;
    }

    House house = new House();
    House image;
    List<Integer> tape = new ArrayList<>();
    Paper[] sheets = new Paper[4];
    int[] found = new int[7];

    long call(String name, int... a) {
        try {
            return answer(name, a);
        } catch (Finding f) {
            found[-1000001 - f.code]++;
            return f.code;
        }
    }

    static boolean in(int v, int least, int most) {
        return least <= v && v <= most;
    }

    static void range(int v, int least, int most) {
        require(in(v, least, most), BEYOND);
    }

    void oneOf(int one) {
        range(one, 0, house.people.size() - 1);
    }

    void thingOf(int thing) {
        range(thing, 0, house.things.size() - 1);
    }

    static void roomOf(int room) {
        range(room, 0, 7);
    }

    private long answer(String name, int[] a) {
        switch (name) {
            case "door": case "rule": case "thing": case "of": case "change": case "one":
            case "person": case "tell": case "lie":
                return answerThings(name, a);
            case "walk": case "in": case "out": case "carry": case "reach": case "lift":
            case "now": case "book":
                return answerSteps(name, a);
            case "ways": case "far": case "task": case "who": case "can": case "above":
            case "strong": case "kindFor": case "place": case "opens":
                return answerTasks(name, a);
            case "safe": case "selves": case "agree":
                return answerNow(name, a);
            case "copies": case "all": case "weight": case "deep":
                return answerNumbers(name, a);
            case "days": case "ahead": case "when": case "seed": case "image": case "undo":
            case "tear": case "count": case "status":
                return answerDays(name, a);
            default:
                return answerPapers(name, a);
        }
    }

    private long answerThings(String name, int[] a) {
        House h = house;
        switch (name) {
            case "door": {
                roomOf(a[0]);
                roomOf(a[1]);
                require(a[0] != a[1], BEYOND);
                range(a[2], 0, 1);
                int was = h.open[a[0]][a[1]] ? 1 : 0;
                h.open[a[0]][a[1]] = a[2] == 1;
                h.open[a[1]][a[0]] = a[2] == 1;
                return was;
            }
            case "rule": {
                range(a[0], 0, 2);
                range(a[1], 0, a[0] == 2 ? 100 : 7);
                int was = a[0] == 0 ? h.small : a[0] == 1 ? h.gate : h.slip;
                rule(a[0], a[1]);
                return was;
            }
            case "thing":
                range(a[0], 0, 6);
                roomOf(a[1]);
                require(h.things.size() < 8, FULL);
                h.things.add(new Thing(a[0], a[1], 8));
                return h.things.size() - 1;
            case "of": {
                thingOf(a[0]);
                range(a[1], 0, 7);
                Thing t = h.things.get(a[0]);
                int[] tells = {t.kind, t.room, t.bulk, t.weighs(0), t.weighs(1), t.weighs(2),
                    t.weighs(3), t.weighs(4)};
                return tells[a[1]];
            }
            case "change": {
                thingOf(a[0]);
                range(a[1], 0, 2);
                range(a[2], a[1] == 2 ? 1 : 0, new int[] {6, 7, 60}[a[1]]);
                Thing t = h.things.get(a[0]);
                int was = new int[] {t.kind, t.room, t.bulk}[a[1]];
                t.kind = a[1] == 0 ? a[2] : t.kind;
                t.room = a[1] == 1 ? a[2] : t.room;
                t.bulk = a[1] == 2 ? a[2] : t.bulk;
                return was;
            }
            case "one":
                range(a[0], 0, 39);
                require(h.people.size() < 4, FULL);
                h.people.add(new One(a[0], 10));
                return h.people.size() - 1;
            case "person": {
                oneOf(a[0]);
                range(a[1], 0, 1);
                range(a[2], 0, a[1] == 0 ? 39 : 60);
                One o = h.people.get(a[0]);
                int was = a[1] == 0 ? o.place() : o.strong;
                h.people.set(a[0], a[1] == 0 ? new One(a[2], o.strong) : new One(o.place(), a[2]));
                return was;
            }
            case "tell":
                oneOf(a[0]);
                range(a[1], 0, 1);
                return a[1] == 0 ? h.people.get(a[0]).place() : h.people.get(a[0]).strong;
            default: {
                roomOf(a[0]);
                int set = 0;
                for (int t = 0; t < h.things.size(); t++) {
                    set += h.things.get(t).room == a[0] ? 1 << t : 0;
                }
                return set;
            }
        }
    }

    private void rule(int what, int v) {
        house.small = what == 0 ? v : house.small;
        house.gate = what == 1 ? v : house.gate;
        house.slip = what == 2 ? v : house.slip;
    }

    private long answerSteps(String name, int[] a) {
        House h = house;
        switch (name) {
            case "walk":
                oneOf(a[0]);
                roomOf(a[1]);
                return h.walk(a[0], a[1]);
            case "in":
                oneOf(a[0]);
                return h.in(a[0]);
            case "out":
                oneOf(a[0]);
                return h.out(a[0]);
            case "carry":
                oneOf(a[0]);
                thingOf(a[1]);
                roomOf(a[2]);
                return h.carry(a[0], a[1], a[2]);
            case "reach":
                oneOf(a[0]);
                thingOf(a[1]);
                roomOf(a[2]);
                return h.reach(a[0], a[1], a[2]);
            case "lift":
                oneOf(a[0]);
                oneOf(a[1]);
                require(a[0] != a[1], BEYOND);
                roomOf(a[2]);
                return h.lift(a[0], a[1], a[2]);
            case "now":
                range(a[0], 0, 6);
                return new int[] {h.moves, h.day, h.small, h.gate, h.slip, h.met, h.books.size()}[
                        a[0]];
            default:
                require(a[0] >= 0, BEYOND);
                range(a[1], 0, 4);
                require(a[0] < h.books.size(), NONE);
                return h.books.get(a[0])[a[1]];
        }
    }

    /** Houses to which one step of the only one leads, with the only thing; reach may be left out. */
    private static List<House> steps(House h, boolean reaching) {
        List<House> all = new ArrayList<>();
        for (int room = 0; room < 8; room++) {
            int to = room;
            offer(all, h, c -> c.walk(0, to));
            if (!h.things.isEmpty()) {
                offer(all, h, c -> c.carry(0, 0, to));
            }
            if (!h.things.isEmpty() && reaching) {
                offer(all, h, c -> c.reach(0, 0, to));
            }
        }
        offer(all, h, c -> c.in(0));
        offer(all, h, c -> c.out(0));
        return all;
    }

    interface Step {
        int on(House h);
    }

    private static void offer(List<House> all, House h, Step step) {
        House c = h.only(0, h.things.size() - 1);
        if (can(() -> step.on(c))) {
            all.add(c);
        }
    }

    /** Steps to each state, by place and the room of the thing (0 without one). */
    private static Map<List<Integer>, Integer> search(House from, int one, int thing,
            boolean reaching) {
        House start = from.only(one, thing);
        Map<List<Integer>, Integer> known = new HashMap<>();
        ArrayDeque<House> queue = new ArrayDeque<>();
        known.put(state(start), 0);
        queue.add(start);
        while (!queue.isEmpty()) {
            House h = queue.remove();
            int next = known.get(state(h)) + 1;
            for (House c : steps(h, reaching)) {
                if (known.putIfAbsent(state(c), next) == null) {
                    queue.add(c);
                }
            }
        }
        return known;
    }

    private static List<Integer> state(House h) {
        return List.of(h.people.get(0).place(), h.things.isEmpty() ? 0 : h.things.get(0).room);
    }

    /** For each room the fewest steps that bring the thing there, or -1. */
    private static int[] rooms(House h, int one, int thing, boolean reaching) {
        int[] fewest = new int[8];
        Arrays.fill(fewest, -1);
        search(h, one, thing, reaching).forEach((state, steps) -> {
            int room = state.get(1);
            if (fewest[room] < 0 || steps < fewest[room]) {
                fewest[room] = steps;
            }
        });
        return fewest;
    }

    private static int set(int[] fewest) {
        int set = 0;
        for (int room = 0; room < 8; room++) {
            set += fewest[room] >= 0 ? 1 << room : 0;
        }
        return set;
    }

    /** The answer of the least steps, the least of several; a pair is an answer and its steps. */
    private static long least(List<int[]> pairs) {
        int[] best = null;
        for (int[] pair : pairs) {
            if (pair[1] >= 0 && (best == null || pair[1] < best[1]
                    || pair[1] == best[1] && pair[0] < best[0])) {
                best = pair;
            }
        }
        require(best != null, NONE);
        return best[0];
    }

    private long answerTasks(String name, int[] a) {
        House h = house;
        if (name.equals("who")) {
            thingOf(a[0]);
            roomOf(a[1]);
            List<int[]> pairs = new ArrayList<>();
            for (int one = 0; one < h.people.size(); one++) {
                pairs.add(new int[] {one, rooms(h, one, a[0], true)[a[1]]});
            }
            return least(pairs);
        }
        oneOf(a[0]);
        if (name.equals("ways") || name.equals("far")) {
            if (name.equals("far")) {
                range(a[1], 0, 39);
            }
            Map<List<Integer>, Integer> known = search(h, a[0], -1, false);
            if (name.equals("ways")) {
                long set = 0;
                for (List<Integer> state : known.keySet()) {
                    set += 1L << state.get(0);
                }
                return set;
            }
            Integer steps = known.get(List.of(a[1], 0));
            require(steps != null, NONE);
            return steps;
        }
        thingOf(a[1]);
        if (name.equals("can")) {
            return set(rooms(h, a[0], a[1], true));
        }
        if (name.equals("above")) {
            return set(rooms(h, a[0], a[1], true)) & ~set(rooms(h, a[0], a[1], false));
        }
        roomOf(a[2]);
        return answerTask(name, a[0], a[1], a[2]);
    }

    private long answerTask(String name, int one, int thing, int room) {
        List<int[]> pairs = new ArrayList<>();
        House h = house.copy();
        switch (name) {
            case "task": {
                int steps = rooms(h, one, thing, true)[room];
                require(steps >= 0, NONE);
                return steps;
            }
            case "strong":
                for (int s = 0; s <= 60; s++) {
                    h.people.get(one).strong = s;
                    if (rooms(h, one, thing, true)[room] >= 0) {
                        return s;
                    }
                }
                throw new Finding(NONE);
            case "kindFor":
                for (int kind = 0; kind < 7; kind++) {
                    h.things.get(thing).kind = kind;
                    pairs.add(new int[] {kind, rooms(h, one, thing, true)[room]});
                }
                return least(pairs);
            case "place":
                for (int small = 0; small < 8; small++) {
                    h.small = small;
                    pairs.add(new int[] {small, rooms(h, one, thing, true)[room]});
                }
                return least(pairs);
            default:
                for (int i = 0; i < 64; i++) {
                    int a = i / 8;
                    int b = i % 8;
                    if (a < b && !h.open[a][b]) {
                        House c = h.copy();
                        c.open[a][b] = true;
                        c.open[b][a] = true;
                        pairs.add(new int[] {10 * a + b, rooms(c, one, thing, true)[room]});
                    }
                }
                return least(pairs);
        }
    }

    private long answerNow(String name, int[] a) {
        if (name.equals("agree")) {
            oneOf(a[0]);
            oneOf(a[2]);
            require(a[0] != a[2], BEYOND);
            for (int rt : new int[] {a[1], a[3]}) {
                require(rt >= 0, BEYOND);
                roomOf(rt / 10);
                thingOf(rt % 10);
            }
            House h = house.copy();
            House k = house.copy();
            can(() -> h.reach(a[0], a[1] % 10, a[1] / 10));
            can(() -> h.reach(a[2], a[3] % 10, a[3] / 10));
            can(() -> k.reach(a[2], a[3] % 10, a[3] / 10));
            can(() -> k.reach(a[0], a[1] % 10, a[1] / 10));
            boolean alike = true;
            for (int t = 0; t < h.things.size(); t++) {
                alike &= h.things.get(t).room == k.things.get(t).room;
            }
            return alike ? 1 : 0;
        }
        int safe = 255;
        int selves = 0;
        for (int i = 0; i < 4 * 8 * 8; i++) {
            int one = i / 64;
            int thing = i / 8 % 8;
            int room = i % 8;
            if (one < house.people.size() && thing < house.things.size()) {
                House h = house.copy();
                boolean carried = can(() -> h.copy().carry(one, thing, room));
                boolean reached = can(() -> h.reach(one, thing, room));
                safe &= carried || reached ? ~(1 << room) : 255;
                selves |= reached && h.people.get(one).room == room ? 1 << one : 0;
            }
        }
        return name.equals("safe") ? safe : selves;
    }

    private long answerNumbers(String name, int[] a) {
        range(a[0], 1, 9);
        BigInteger h = BigInteger.valueOf(a[0]);
        if (name.equals("deep")) {
            range(a[1], 1, 2000000000);
            for (int n = 0; n <= 62; n++) {
                if (h.pow(n).compareTo(BigInteger.valueOf(a[1])) >= 0) {
                    return n;
                }
            }
            throw new Finding(NONE);
        }
        range(a[1], 0, name.equals("weight") ? 30 : 62);
        BigInteger most = BigInteger.valueOf(4).multiply(BigInteger.TEN.pow(18));
        if (name.equals("copies")) {
            require(h.pow(a[1]).compareTo(most) <= 0, SIZE);
            return h.pow(a[1]).longValueExact();
        }
        if (name.equals("all")) {
            BigInteger sum = BigInteger.ZERO;
            for (int n = 0; n <= a[1]; n++) {
                sum = sum.add(h.pow(n));
            }
            require(sum.compareTo(most) <= 0, SIZE);
            return sum.longValueExact();
        }
        range(a[2], 0, 1);
        BigInteger limit = BigInteger.TEN.pow(12);
        BigInteger top = BigInteger.ZERO;
        BigInteger bottom = BigInteger.ONE;
        for (int n = 0; n <= a[1]; n++) {
            BigInteger two = BigInteger.TWO.pow(n);
            top = top.multiply(two).add(h.pow(n).multiply(bottom));
            bottom = bottom.multiply(two);
            BigInteger gcd = top.gcd(bottom);
            top = top.divide(gcd);
            bottom = bottom.divide(gcd);
            require(top.compareTo(limit) <= 0 && bottom.compareTo(limit) <= 0, SIZE);
        }
        return (a[2] == 0 ? top : bottom).longValueExact();
    }

    private long answerDays(String name, int[] a) {
        House h = house;
        switch (name) {
            case "days": {
                range(a[0], 1, 60);
                require(h.day + a[0] <= 9999, STATE);
                int before = h.met;
                for (int i = 0; i < a[0]; i++) {
                    h.dayGoes();
                }
                return h.met - before;
            }
            case "ahead": {
                range(a[0], 0, 60);
                range(a[1], 0, 8);
                require(a[1] <= h.things.size(), BEYOND);
                require(h.day + a[0] <= 9999, STATE);
                House c = h.copy();
                for (int i = 0; i < a[0]; i++) {
                    c.dayGoes();
                }
                return a[1] == 0 ? c.met - h.met : c.things.get(a[1] - 1).room;
            }
            case "when": {
                thingOf(a[0]);
                roomOf(a[1]);
                require(h.day <= 9939, STATE);
                House c = h.copy();
                for (int i = 0; i <= 60; i++) {
                    if (c.things.get(a[0]).room == a[1]) {
                        return i;
                    }
                    c.dayGoes();
                }
                throw new Finding(NONE);
            }
            case "seed": {
                int was = h.z;
                h.z = a[0];
                return was;
            }
            case "image":
                image = h.copy();
                return 1;
            case "undo":
                require(image != null, NONE);
                house = image.copy();
                return house.day;
            case "tear": {
                int was = image == null ? 0 : 1;
                image = null;
                return was;
            }
            case "count":
                range(a[0], 0, 7);
                return new int[] {h.day, h.things.size(), h.people.size(), h.moves, h.met,
                    tape.size(), h.z, (int) Arrays.stream(h.spots).filter(s -> s >= 0).count()}[
                            a[0]];
            default:
                range(a[0], -1, 6);
                return a[0] < 0 ? Arrays.stream(found).sum() : found[a[0]];
        }
    }

    private long answerPapers(String name, int[] a) {
        switch (name) {
            case "feed":
                range(a[1], 1, 4);
                require(tape.size() + a[1] <= 120, FULL);
                for (int i = a[1] - 1; i >= 0; i--) {
                    tape.add(Math.floorMod(Math.floorDiv((long) a[0], 1L << (8 * i)), 256));
                }
                return tape.size();
            case "wipe": {
                int had = tape.size();
                tape.clear();
                return had;
            }
            case "text":
                return text();
            case "hold":
                range(a[0], 0, 9);
                range(a[1], -1, house.things.size() - 1);
                house.spots[a[0]] = a[1];
                return 1;
            case "as": {
                range(a[0], 0, 9);
                range(a[1], 0, 6);
                int held = house.spots[a[0]];
                require(held >= 0, MISSING);
                int kind = house.things.get(held).kind;
                while (kind >= 0 && kind != a[1]) {
                    kind = ABOVE[kind];
                }
                require(kind >= 0, KIND);
                return held;
            }
            case "sheet":
                range(a[0], 0, 3);
                require(List.of(0, 8, 16, 32).contains(a[1]), BEYOND);
                require(a[2] >= 0, SIZE);
                range(a[2], 0, 40);
                sheets[a[0]] = null;
                if (a[1] == 0) {
                    return 0;
                }
                sheets[a[0]] = new Paper();
                sheets[a[0]].bits = a[1];
                sheets[a[0]].row = new int[a[2]];
                return a[2];
            default:
                return answerSheets(name, a);
        }
    }

    private long answerSheets(String name, int[] a) {
        range(a[0], 0, 3);
        if (name.equals("copy")) {
            range(a[2], 0, 3);
        }
        Paper s = sheets[a[0]];
        require(s != null, MISSING);
        switch (name) {
            case "write": {
                range(a[1], 0, s.row.length - 1);
                int shift = 32 - s.bits;
                s.row[a[1]] = a[2] << shift >> shift;
                return 1;
            }
            case "copy": {
                Paper t = sheets[a[2]];
                require(t != null, MISSING);
                require(s.bits == t.bits, KIND);
                require(a[1] >= 0 && a[3] >= 0 && a[4] >= 0, BEYOND);
                require((long) a[1] + a[4] <= s.row.length, BEYOND);
                require((long) a[3] + a[4] <= t.row.length, BEYOND);
                int[] were = s.row.clone();
                for (int i = 0; i < a[4]; i++) {
                    t.row[a[3] + i] = were[a[1] + i];
                }
                return a[4];
            }
            case "load": {
                int came = 0;
                for (int v : s.row) {
                    if (!in(v, 0, 7) || came >= house.things.size()) {
                        break;
                    }
                    house.things.get(came).room = v;
                    came++;
                }
                return came;
            }
            default: {
                oneOf(a[1]);
                House h = house.only(a[1], -1);
                for (int i = 0; i < s.row.length; i++) {
                    int place = s.row[i];
                    boolean so = i == 0 && place == h.people.get(0).place();
                    if (i > 0) {
                        for (House next : steps(h, false)) {
                            if (next.people.get(0).place() == place) {
                                h = next;
                                so = true;
                                break;
                            }
                        }
                    }
                    if (!so) {
                        return 1 + i;
                    }
                }
                return 0;
            }
        }
    }

    // ---- texts: tokens by a pattern, items by taking them from the front

    private static final Pattern TOKEN = Pattern.compile("[a-z]+|[0-9]+|;|[^ ]");

    static final class Fault extends RuntimeException {
        private static final long serialVersionUID = 1L;
        final int at;

        Fault(int at) {
            super(null, null, false, false);
            this.at = at;
        }
    }

    static final class Tokens {
        final List<String> words = new ArrayList<>();
        final List<Integer> starts = new ArrayList<>();
        int next = 0;

        Tokens(String text) {
            Matcher m = TOKEN.matcher(text);
            while (m.find()) {
                words.add(m.group());
                starts.add(m.start());
            }
            words.add("");
            starts.add(text.length());
        }

        String peek() {
            return words.get(next);
        }

        void refuse() {
            throw new Fault(starts.get(next));
        }

        int number(int least, int most, int barred) {
            if (!peek().matches("[0-9]+")) {
                refuse();
            }
            BigInteger v = new BigInteger(peek());
            if (v.compareTo(BigInteger.valueOf(999)) > 0 || !in(v.intValue(), least, most)
                    || v.intValue() == barred) {
                refuse();
            }
            next++;
            return v.intValue();
        }

        int perhaps(String word, int least, int most, int otherwise) {
            if (!peek().equals(word)) {
                return otherwise;
            }
            next++;
            return number(least, most, -1);
        }
    }

    private long text() {
        StringBuilder text = new StringBuilder();
        for (int b : tape) {
            text.append((char) b);
        }
        tape.clear();
        House before = house.copy();
        try {
            Tokens tokens = new Tokens(text.toString());
            int items = 0;
            while (true) {
                item(tokens);
                items++;
                if (tokens.peek().isEmpty()) {
                    return items;
                }
                if (!tokens.peek().equals(";")) {
                    tokens.refuse();
                }
                tokens.next++;
            }
        } catch (Fault f) {
            house = before;
            return -1 - f.at;
        }
    }

    private void item(Tokens tokens) {
        String word = tokens.peek();
        int kind = KINDS.indexOf(word);
        boolean full = kind >= 0 && house.things.size() == 8
                || word.equals("one") && house.people.size() == 4;
        if (full || kind < 0 && !word.matches("one|open|shut|small|gate|slip")) {
            tokens.refuse();
        }
        tokens.next++;
        if (kind >= 0) {
            int room = tokens.perhaps("in", 0, 7, 0);
            house.things.add(new Thing(kind, room, tokens.perhaps("bulk", 1, 60, 8)));
        } else if (word.equals("one")) {
            int room = tokens.perhaps("in", 0, 7, 0);
            int level = tokens.perhaps("level", 0, 4, 0);
            house.people.add(new One(8 * level + room, tokens.perhaps("strong", 0, 60, 10)));
        } else if (word.equals("open") || word.equals("shut")) {
            int a = tokens.number(0, 7, -1);
            int b = tokens.number(0, 7, a);
            house.open[a][b] = word.equals("open");
            house.open[b][a] = word.equals("open");
        } else {
            int what = List.of("small", "gate", "slip").indexOf(word);
            rule(what, tokens.number(0, what == 2 ? 100 : 7, -1));
        }
    }
}
