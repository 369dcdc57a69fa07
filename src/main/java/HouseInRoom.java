import java.util.Arrays;

/**
 * A house that stands again, a hand high, in a cupboard of one of its own rooms, and in it again.
 *
 * <p>The public calls test what they are given and count the findings that they answer; the classes
 * inside do the work, and are called only with numbers that were tested here.
 */
public final class HouseInRoom {
    private static final int BEYOND = -1000001;
    private static final int FULL = -1000002;
    private static final int KIND = -1000003;
    private static final int NONE = -1000004;
    private static final int STATE = -1000005;
    private static final int MISSING = -1000006;
    private static final int SIZE = -1000007;
    private static final int FINDINGS = 7;

    private static final int ROOMS = 8;
    private static final int LEVELS = 5;
    private static final int PLACES = ROOMS * LEVELS;
    private static final int KINDS = 7;
    private static final int MOST_THINGS = 8;
    private static final int MOST_PEOPLE = 4;
    private static final int MOST_BULK = 60;
    private static final int FIRST_BULK = 8;
    private static final int MOST_STRONG = 60;
    private static final int FIRST_STRONG = 10;
    private static final int MOST_SLIP = 100;
    private static final int MOST_BOOKS = 12;
    private static final int LAST_DAY = 9999;
    private static final int MOST_DAYS = 60;
    private static final int SPOTS = 10;
    private static final int NOTHING = -1;
    private static final int SHEETS = 4;
    private static final int MOST_NUMBERS = 40;

    private static final int MOST_SMALL_HOUSES = 9;
    private static final int DEEPEST = 62;
    private static final int DEEPEST_WEIGHT = 30;
    private static final int MOST_WANTED = 2000000000;
    private static final long MOST_COPIES = 4000000000000000000L;
    private static final long MOST_IN_FRACTION = 1000000000000L;

    /** One place of each level: that of room 0. */
    private static final long ALL_LEVELS = 0x0101010101L;
    private static final int MOST_STEPS = PLACES * ROOMS;
    private static final int ANY_ROOM = -1;
    private static final int NEVER = -1;

    private final World world = new World();
    private final World kept = new World();
    /** What calls that change nothing may change: a copy of the world, made anew by each of them. */
    private final World trial = new World();
    private boolean keeps;
    private final Search search = new Search();
    private final TextReader reader = new TextReader();
    private final Sheet[] sheets = new Sheet[SHEETS];
    private final int[] tallies = new int[FINDINGS];

    public HouseInRoom() {
        for (int s = 0; s < SHEETS; s++) {
            sheets[s] = new Sheet();
        }
    }

    // ---- rooms, things, people

    public int door(int a, int b, int v) {
        if (!isRoom(a) || !isRoom(b) || a == b || !isWithin(v, 0, 1)) {
            return finding(BEYOND);
        }
        int was = world.isOpen(a, b) ? 1 : 0;
        world.setDoor(a, b, v == 1);
        return was;
    }

    public int rule(int what, int v) {
        if (!isWithin(what, 0, 2) || !isWithin(v, 0, what == 2 ? MOST_SLIP : ROOMS - 1)) {
            return finding(BEYOND);
        }
        return world.setRule(what, v);
    }

    public int thing(int kind, int room) {
        if (!isKind(kind) || !isRoom(room)) {
            return finding(BEYOND);
        }
        if (world.things >= MOST_THINGS) {
            return finding(FULL);
        }
        return world.addThing(kind, room, FIRST_BULK);
    }

    public int of(int thing, int what) {
        if (!isThing(thing) || !isWithin(what, 0, 2 + LEVELS)) {
            return finding(BEYOND);
        }
        return what < 3 ? world.partOf(thing, what) : world.weightIn(thing, what - 3);
    }

    public int change(int thing, int what, int v) {
        if (!isThing(thing) || !isWithin(what, 0, 2) || !canBePart(what, v)) {
            return finding(BEYOND);
        }
        int was = world.partOf(thing, what);
        world.setPart(thing, what, v);
        return was;
    }

    public int one(int place) {
        if (!isPlace(place)) {
            return finding(BEYOND);
        }
        if (world.people >= MOST_PEOPLE) {
            return finding(FULL);
        }
        return world.addOne(place, FIRST_STRONG);
    }

    public int person(int one, int what, int v) {
        if (!isOne(one) || !isWithin(what, 0, 1)
                || !isWithin(v, 0, what == 0 ? PLACES - 1 : MOST_STRONG)) {
            return finding(BEYOND);
        }
        int was = world.traitOf(one, what);
        world.setTrait(one, what, v);
        return was;
    }

    public int tell(int one, int what) {
        if (!isOne(one) || !isWithin(what, 0, 1)) {
            return finding(BEYOND);
        }
        return world.traitOf(one, what);
    }

    public int lie(int room) {
        if (!isRoom(room)) {
            return finding(BEYOND);
        }
        return world.thingsIn(room);
    }

    // ---- steps

    public int walk(int one, int room) {
        if (!isOne(one) || !isRoom(room)) {
            return finding(BEYOND);
        }
        if (!world.isOpen(world.roomOf(one), room)) {
            return finding(STATE);
        }
        world.moveTo(one, room);
        return world.places[one];
    }

    public int in(int one) {
        if (!isOne(one)) {
            return finding(BEYOND);
        }
        return goTo(one, world.placeInside(world.places[one]));
    }

    public int out(int one) {
        if (!isOne(one)) {
            return finding(BEYOND);
        }
        return goTo(one, world.placeOutside(world.places[one]));
    }

    public int carry(int one, int thing, int room) {
        if (!isOne(one) || !isThing(thing) || !isRoom(room)) {
            return finding(BEYOND);
        }
        if (!world.canCarry(one, thing) || !world.isOpen(world.roomOf(one), room)) {
            return finding(STATE);
        }
        return world.carryOver(one, thing, room);
    }

    public int reach(int one, int thing, int room) {
        if (!isOne(one) || !isThing(thing) || !isRoom(room)) {
            return finding(BEYOND);
        }
        if (!world.canReach(one, thing) || world.rooms[thing] == room) {
            return finding(STATE);
        }
        return world.reachOver(one, thing, room);
    }

    public int lift(int one, int other, int room) {
        if (!isOne(one) || !isOne(other) || one == other || !isRoom(room)) {
            return finding(BEYOND);
        }
        if (!world.canLift(one, other) || world.roomOf(other) == room) {
            return finding(STATE);
        }
        world.moveTo(other, room);
        world.moves++;
        return world.moves;
    }

    public int now(int what) {
        switch (what) {
            case 0: return world.moves;
            case 1: return world.day;
            case 2: return world.small;
            case 3: return world.gate;
            case 4: return world.slip;
            case 5: return world.met;
            case 6: return world.booked;
            default: return finding(BEYOND);
        }
    }

    public int book(int i, int what) {
        if (i < 0 || !isWithin(what, 0, World.BOOK_SIZE - 1)) {
            return finding(BEYOND);
        }
        if (i >= world.booked) {
            return finding(NONE);
        }
        return world.books[i * World.BOOK_SIZE + what];
    }

    // ---- ways, tasks (nothing changes)

    public long ways(int one) {
        if (!isOne(one)) {
            return finding(BEYOND);
        }
        return search.placesFrom(world, world.places[one]);
    }

    public int far(int one, int place) {
        if (!isOne(one) || !isPlace(place)) {
            return finding(BEYOND);
        }
        return foundOrNone(search.stepsTo(world, world.places[one], place));
    }

    public int task(int one, int thing, int room) {
        if (!isTask(one, thing, room)) {
            return finding(BEYOND);
        }
        return foundOrNone(search.fewestFor(world, one, thing, room));
    }

    public int who(int thing, int room) {
        if (!isThing(thing) || !isRoom(room)) {
            return finding(BEYOND);
        }
        int best = NEVER;
        int fewest = NEVER;
        for (int one = 0; one < world.people; one++) {
            int steps = search.fewestFor(world, one, thing, room);
            if (isFewer(steps, fewest)) {
                fewest = steps;
                best = one;
            }
        }
        return foundOrNone(best);
    }

    public int can(int one, int thing) {
        if (!isOne(one) || !isThing(thing)) {
            return finding(BEYOND);
        }
        return search.roomsFor(world, one, thing, true);
    }

    public int above(int one, int thing) {
        if (!isOne(one) || !isThing(thing)) {
            return finding(BEYOND);
        }
        int withReach = search.roomsFor(world, one, thing, true);
        return withReach & ~search.roomsFor(world, one, thing, false);
    }

    public int strong(int one, int thing, int room) {
        if (!isTask(one, thing, room)) {
            return finding(BEYOND);
        }
        trial.become(world);
        for (int strength = 0; strength <= MOST_STRONG; strength++) {
            // Between two weights of the thing more strength opens nothing.
            if (strength == 0 || trial.weighsSomewhere(thing, strength)) {
                trial.strengths[one] = strength;
                if (search.fewestFor(trial, one, thing, room) != NEVER) {
                    return strength;
                }
            }
        }
        return finding(NONE);
    }

    public int kindFor(int one, int thing, int room) {
        if (!isTask(one, thing, room)) {
            return finding(BEYOND);
        }
        trial.become(world);
        int best = NEVER;
        int fewest = NEVER;
        for (int kind = 0; kind < KINDS; kind++) {
            trial.kinds[thing] = kind;
            int steps = search.fewestFor(trial, one, thing, room);
            if (isFewer(steps, fewest)) {
                fewest = steps;
                best = kind;
            }
        }
        return foundOrNone(best);
    }

    public int place(int one, int thing, int room) {
        if (!isTask(one, thing, room)) {
            return finding(BEYOND);
        }
        trial.become(world);
        int best = NEVER;
        int fewest = NEVER;
        for (int small = 0; small < ROOMS; small++) {
            trial.small = small;
            int steps = search.fewestFor(trial, one, thing, room);
            if (isFewer(steps, fewest)) {
                fewest = steps;
                best = small;
            }
        }
        return foundOrNone(best);
    }

    public int safe() {
        int struck = 0;
        for (int one = 0; one < world.people; one++) {
            for (int thing = 0; thing < world.things; thing++) {
                struck |= world.roomsHitBy(one, thing);
            }
        }
        return ~struck & ((1 << ROOMS) - 1);
    }

    public int selves() {
        int set = 0;
        for (int one = 0; one < world.people; one++) {
            for (int thing = 0; thing < world.things; thing++) {
                if (world.canReach(one, thing) && world.rooms[thing] != world.small) {
                    set |= 1 << one;
                }
            }
        }
        return set;
    }

    public int agree(int one, int rt, int other, int ru) {
        if (!isOne(one) || !isOne(other) || one == other || !isRoomAndThing(rt)
                || !isRoomAndThing(ru)) {
            return finding(BEYOND);
        }
        int thing = rt % 10;
        if (thing != ru % 10) {
            return 1;
        }
        boolean first = world.canReach(one, thing);
        boolean second = world.canReach(other, thing);
        // The later of two that both can reach has the last word: only then the order tells.
        return first && second && rt / 10 != ru / 10 ? 0 : 1;
    }

    public int opens(int one, int thing, int room) {
        if (!isTask(one, thing, room)) {
            return finding(BEYOND);
        }
        trial.become(world);
        int best = NEVER;
        int fewest = NEVER;
        for (int a = 0; a < ROOMS; a++) {
            for (int b = a + 1; b < ROOMS; b++) {
                int steps = world.isOpen(a, b) ? NEVER : stepsWithDoor(a, b, one, thing, room);
                if (isFewer(steps, fewest)) {
                    fewest = steps;
                    best = 10 * a + b;
                }
            }
        }
        return foundOrNone(best);
    }

    // ---- how many

    public long copies(int h, int n) {
        if (!isWithin(h, 1, MOST_SMALL_HOUSES) || !isWithin(n, 0, DEEPEST)) {
            return finding(BEYOND);
        }
        long number = 1;
        for (int level = 0; level < n; level++) {
            if (number > MOST_COPIES / h) {
                return finding(SIZE);
            }
            number *= h;
        }
        return number;
    }

    public long all(int h, int n) {
        if (!isWithin(h, 1, MOST_SMALL_HOUSES) || !isWithin(n, 0, DEEPEST)) {
            return finding(BEYOND);
        }
        long number = 1;
        long sum = 1;
        for (int level = 0; level < n; level++) {
            if (number > MOST_COPIES / h || sum > MOST_COPIES - number * h) {
                return finding(SIZE);
            }
            number *= h;
            sum += number;
        }
        return sum;
    }

    public long weight(int h, int n, int what) {
        if (!isWithin(h, 1, MOST_SMALL_HOUSES) || !isWithin(n, 0, DEEPEST_WEIGHT)
                || !isWithin(what, 0, 1)) {
            return finding(BEYOND);
        }
        // A level weighs grow / shrink (in lowest terms) times the one above, and so all sums
        // come in lowest terms: with shrink 2 each but the first is odd above the line.
        long grow = h % 2 == 0 ? h / 2 : h;
        long shrink = h % 2 == 0 ? 1 : 2;
        long power = 1;
        long top = 1;
        long bottom = 1;
        for (int level = 0; level < n; level++) {
            power *= grow;
            top = top * shrink + power;
            bottom *= shrink;
            if (top > MOST_IN_FRACTION || bottom > MOST_IN_FRACTION) {
                return finding(SIZE);
            }
        }
        return what == 0 ? top : bottom;
    }

    public int deep(int h, int v) {
        if (!isWithin(h, 1, MOST_SMALL_HOUSES) || !isWithin(v, 1, MOST_WANTED)) {
            return finding(BEYOND);
        }
        long number = 1;
        for (int level = 0; level <= DEEPEST; level++) {
            if (number >= v) {
                return level;
            }
            number *= h;
        }
        return finding(NONE);
    }

    // ---- days

    public int days(int n) {
        if (!isWithin(n, 1, MOST_DAYS)) {
            return finding(BEYOND);
        }
        if (world.day + n > LAST_DAY) {
            return finding(STATE);
        }
        return world.passDays(n);
    }

    public int ahead(int n, int what) {
        if (!isWithin(n, 0, MOST_DAYS) || (what != 0 && !isThing(what - 1))) {
            return finding(BEYOND);
        }
        if (world.day + n > LAST_DAY) {
            return finding(STATE);
        }
        trial.become(world);
        int met = trial.passDays(n);
        return what == 0 ? met : trial.rooms[what - 1];
    }

    public int when(int thing, int room) {
        if (!isThing(thing) || !isRoom(room)) {
            return finding(BEYOND);
        }
        if (world.day > LAST_DAY - MOST_DAYS) {
            return finding(STATE);
        }
        trial.become(world);
        for (int passed = 0; passed <= MOST_DAYS; passed++) {
            if (passed > 0) {
                trial.passDays(1);
            }
            if (trial.rooms[thing] == room) {
                return passed;
            }
        }
        return finding(NONE);
    }

    public int seed(int v) {
        int was = world.z;
        world.z = v;
        return was;
    }

    // ---- texts

    public int feed(int bytes, int n) {
        if (!isWithin(n, 1, 4)) {
            return finding(BEYOND);
        }
        if (reader.tape.length + n > Tape.MOST_BYTES) {
            return finding(FULL);
        }
        reader.tape.append(bytes, n);
        return reader.tape.length;
    }

    public int wipe() {
        int had = reader.tape.length;
        reader.tape.length = 0;
        return had;
    }

    public int text() {
        int fault = reader.parse(world.things, world.people);
        reader.tape.length = 0;
        if (fault != NEVER) {
            return -1 - fault;
        }
        for (int i = 0; i < reader.count; i++) {
            makeSo(i * TextReader.ITEM_SIZE);
        }
        return reader.count;
    }

    // ---- spots, sheets

    public int hold(int spot, int thing) {
        if (!isWithin(spot, 0, SPOTS - 1) || (thing != NOTHING && !isThing(thing))) {
            return finding(BEYOND);
        }
        world.spots[spot] = thing;
        return 1;
    }

    public int as(int spot, int kind) {
        if (!isWithin(spot, 0, SPOTS - 1) || !isKind(kind)) {
            return finding(BEYOND);
        }
        int held = world.spots[spot];
        if (!isThing(held)) {
            return finding(MISSING);
        }
        return Kinds.isUnder(world.kinds[held], kind) ? held : finding(KIND);
    }

    public int sheet(int s, int bits, int n) {
        if (!isSheet(s) || (bits != 0 && bits != 8 && bits != 16 && bits != 32)) {
            return finding(BEYOND);
        }
        if (n < 0) {
            return finding(SIZE);
        }
        if (n > MOST_NUMBERS) {
            return finding(BEYOND);
        }
        sheets[s].renew(bits, n);
        return sheets[s].length;
    }

    public int write(int s, int i, int v) {
        if (!isSheet(s)) {
            return finding(BEYOND);
        }
        if (sheets[s].isMissing()) {
            return finding(MISSING);
        }
        if (!isWithin(i, 0, sheets[s].length - 1)) {
            return finding(BEYOND);
        }
        sheets[s].put(i, v);
        return 1;
    }

    public int copy(int s, int from, int t, int to, int n) {
        if (!isSheet(s) || !isSheet(t)) {
            return finding(BEYOND);
        }
        if (sheets[s].isMissing() || sheets[t].isMissing()) {
            return finding(MISSING);
        }
        if (sheets[s].bits != sheets[t].bits) {
            return finding(KIND);
        }
        if (!sheets[s].hasRow(from, n) || !sheets[t].hasRow(to, n)) {
            return finding(BEYOND);
        }
        System.arraycopy(sheets[s].numbers, from, sheets[t].numbers, to, n);
        return n;
    }

    public int load(int s) {
        if (!isSheet(s)) {
            return finding(BEYOND);
        }
        if (sheets[s].isMissing()) {
            return finding(MISSING);
        }
        int came = 0;
        for (int i = 0; i < sheets[s].length && isThing(i); i++) {
            int room = sheets[s].numbers[i];
            if (!isRoom(room)) {
                break;
            }
            world.rooms[i] = room;
            came++;
        }
        return came;
    }

    public int judge(int s, int one) {
        if (!isSheet(s)) {
            return finding(BEYOND);
        }
        if (sheets[s].isMissing()) {
            return finding(MISSING);
        }
        if (!isOne(one)) {
            return finding(BEYOND);
        }
        long allowed = 1L << world.places[one];
        for (int i = 0; i < sheets[s].length; i++) {
            int place = sheets[s].numbers[i];
            if (!isPlace(place) || (allowed >>> place & 1) == 0) {
                return 1 + i;
            }
            allowed = world.nextPlaces(1L << place);
        }
        return 0;
    }

    // ---- images

    public int image() {
        kept.become(world);
        keeps = true;
        return 1;
    }

    public int undo() {
        if (!keeps) {
            return finding(NONE);
        }
        world.become(kept);
        return world.day;
    }

    public int tear() {
        int had = keeps ? 1 : 0;
        keeps = false;
        return had;
    }

    public int count(int what) {
        switch (what) {
            case 0: return world.day;
            case 1: return world.things;
            case 2: return world.people;
            case 3: return world.moves;
            case 4: return world.met;
            case 5: return reader.tape.length;
            case 6: return world.z;
            case 7: return world.fullSpots();
            default: return finding(BEYOND);
        }
    }

    public int status(int which) {
        if (!isWithin(which, -1, FINDINGS - 1)) {
            return finding(BEYOND);
        }
        if (which >= 0) {
            return tallies[which];
        }
        int sum = 0;
        for (int i = 0; i < FINDINGS; i++) {
            sum += tallies[i];
        }
        return sum;
    }

    // ---- what the calls share

    private int finding(int found) {
        int which = BEYOND - found;
        if (isWithin(which, 0, FINDINGS - 1)) {
            tallies[which]++;
        }
        return found;
    }

    private int foundOrNone(int answer) {
        return answer == NEVER ? finding(NONE) : answer;
    }

    private static boolean isFewer(int steps, int fewest) {
        return steps != NEVER && (fewest == NEVER || steps < fewest);
    }

    private static boolean isWithin(int v, int least, int most) {
        return v >= least && v <= most;
    }

    private static boolean isRoom(int room) {
        return isWithin(room, 0, ROOMS - 1);
    }

    private static boolean isPlace(int place) {
        return isWithin(place, 0, PLACES - 1);
    }

    private static boolean isKind(int kind) {
        return isWithin(kind, 0, KINDS - 1);
    }

    private static boolean isSheet(int s) {
        return isWithin(s, 0, SHEETS - 1);
    }

    private boolean isThing(int thing) {
        return isWithin(thing, 0, world.things - 1);
    }

    private boolean isOne(int one) {
        return isWithin(one, 0, world.people - 1);
    }

    private boolean isTask(int one, int thing, int room) {
        return isOne(one) && isThing(thing) && isRoom(room);
    }

    private boolean isRoomAndThing(int rt) {
        return rt >= 0 && isRoom(rt / 10) && isThing(rt % 10);
    }

    private static boolean canBePart(int what, int v) {
        switch (what) {
            case 0: return isKind(v);
            case 1: return isRoom(v);
            default: return isWithin(v, 1, MOST_BULK);
        }
    }

    private int goTo(int one, int place) {
        if (place == NEVER) {
            return finding(STATE);
        }
        world.places[one] = place;
        return place;
    }

    private int stepsWithDoor(int a, int b, int one, int thing, int room) {
        trial.setDoor(a, b, true);
        int steps = search.fewestFor(trial, one, thing, room);
        trial.setDoor(a, b, false);
        return steps;
    }

    private void makeSo(int item) {
        int a = reader.items[item + 1];
        int b = reader.items[item + 2];
        int c = reader.items[item + 3];
        switch (reader.items[item]) {
            case TextReader.NEW_THING: world.addThing(a, b, c); break;
            case TextReader.NEW_ONE: world.addOne(a, b); break;
            case TextReader.NEW_DOOR: world.setDoor(a, b, c == 1); break;
            default: world.setRule(a, b); break;
        }
    }

    /** The kinds of things, and what each weighs. */
    private static final class Kinds {
        static final int THING = 0;
        static final int CHAIR = 1;
        static final int TABLE = 2;
        static final int BED = 3;
        static final int LETTER = 4;
        static final int KEY = 5;
        static final int LAMP = 6;

        static int weightOf(int kind, int bulk, int level) {
            int halved = bulk >> level;
            switch (kind) {
                case CHAIR: return halved + 1;
                case TABLE: return 2 * (halved + 1);
                case BED: return 2 * (halved + 1) + 5;
                case LETTER: return 1;
                case KEY: return 0;
                case LAMP: return bulk;
                default: return halved;
            }
        }

        static boolean isUnder(int kind, int wanted) {
            int k = kind;
            for (int i = 0; i < KINDS && k != wanted && k != THING; i++) {
                k = kindAbove(k);
            }
            return k == wanted;
        }

        private static int kindAbove(int kind) {
            switch (kind) {
                case TABLE: return CHAIR;
                case BED: return TABLE;
                case KEY: return LETTER;
                default: return THING;
            }
        }
    }

    /** All that an image keeps: the house, things, people, books, the day, draws and spots. */
    private static final class World {
        static final int BOOK_SIZE = 5;

        /** For each room the set of rooms to which a door is open. */
        final int[] doors = new int[ROOMS];
        int small = 3;
        int gate;
        int slip;
        int things;
        final int[] kinds = new int[MOST_THINGS];
        final int[] rooms = new int[MOST_THINGS];
        final int[] bulks = new int[MOST_THINGS];
        int people;
        final int[] places = new int[MOST_PEOPLE];
        final int[] strengths = new int[MOST_PEOPLE];
        int moves;
        int met;
        int booked;
        /** The latest book first. */
        final int[] books = new int[MOST_BOOKS * BOOK_SIZE];
        int day;
        int z = 1;
        final int[] spots = new int[SPOTS];

        World() {
            for (int r = 0; r < ROOMS - 1; r++) {
                doors[r] |= 1 << (r + 1);
                doors[r + 1] |= 1 << r;
            }
            for (int spot = 0; spot < SPOTS; spot++) {
                spots[spot] = NOTHING;
            }
        }

        void become(World other) {
            System.arraycopy(other.doors, 0, doors, 0, ROOMS);
            small = other.small;
            gate = other.gate;
            slip = other.slip;
            things = other.things;
            System.arraycopy(other.kinds, 0, kinds, 0, MOST_THINGS);
            System.arraycopy(other.rooms, 0, rooms, 0, MOST_THINGS);
            System.arraycopy(other.bulks, 0, bulks, 0, MOST_THINGS);
            people = other.people;
            System.arraycopy(other.places, 0, places, 0, MOST_PEOPLE);
            System.arraycopy(other.strengths, 0, strengths, 0, MOST_PEOPLE);
            moves = other.moves;
            met = other.met;
            booked = other.booked;
            System.arraycopy(other.books, 0, books, 0, MOST_BOOKS * BOOK_SIZE);
            day = other.day;
            z = other.z;
            System.arraycopy(other.spots, 0, spots, 0, SPOTS);
        }

        boolean isOpen(int a, int b) {
            return (doors[a] >> b & 1) == 1;
        }

        void setDoor(int a, int b, boolean open) {
            if (open) {
                doors[a] |= 1 << b;
                doors[b] |= 1 << a;
            } else {
                doors[a] &= ~(1 << b);
                doors[b] &= ~(1 << a);
            }
        }

        int setRule(int what, int v) {
            int was;
            switch (what) {
                case 0:
                    was = small;
                    small = v;
                    break;
                case 1:
                    was = gate;
                    gate = v;
                    break;
                default:
                    was = slip;
                    slip = v;
                    break;
            }
            return was;
        }

        int addThing(int kind, int room, int bulk) {
            if (things >= MOST_THINGS) {
                return FULL;
            }
            kinds[things] = kind;
            rooms[things] = room;
            bulks[things] = bulk;
            things++;
            return things - 1;
        }

        int partOf(int thing, int what) {
            switch (what) {
                case 0: return kinds[thing];
                case 1: return rooms[thing];
                default: return bulks[thing];
            }
        }

        void setPart(int thing, int what, int v) {
            switch (what) {
                case 0: kinds[thing] = v; break;
                case 1: rooms[thing] = v; break;
                default: bulks[thing] = v; break;
            }
        }

        int weightIn(int thing, int level) {
            return Kinds.weightOf(kinds[thing], bulks[thing], level);
        }

        boolean weighsSomewhere(int thing, int wanted) {
            for (int level = 0; level < LEVELS; level++) {
                if (weightIn(thing, level) == wanted) {
                    return true;
                }
            }
            return false;
        }

        int thingsIn(int room) {
            int set = 0;
            for (int thing = 0; thing < things; thing++) {
                if (rooms[thing] == room) {
                    set |= 1 << thing;
                }
            }
            return set;
        }

        int addOne(int place, int strength) {
            if (people >= MOST_PEOPLE) {
                return FULL;
            }
            places[people] = place;
            strengths[people] = strength;
            people++;
            return people - 1;
        }

        int traitOf(int one, int what) {
            return what == 0 ? places[one] : strengths[one];
        }

        void setTrait(int one, int what, int v) {
            if (what == 0) {
                places[one] = v;
            } else {
                strengths[one] = v;
            }
        }

        int roomOf(int one) {
            return places[one] % ROOMS;
        }

        int levelOf(int one) {
            return places[one] / ROOMS;
        }

        void moveTo(int one, int room) {
            places[one] = levelOf(one) * ROOMS + room;
        }

        /** Where IN leads from a place, or NEVER. */
        int placeInside(int place) {
            boolean leads = place % ROOMS == small && place / ROOMS < LEVELS - 1;
            return leads ? (place / ROOMS + 1) * ROOMS + gate : NEVER;
        }

        /** Where OUT leads from a place, or NEVER. */
        int placeOutside(int place) {
            boolean leads = place % ROOMS == gate && place / ROOMS > 0;
            return leads ? (place / ROOMS - 1) * ROOMS + small : NEVER;
        }

        /** The set of places to which one WALK, IN or OUT leads from any of a set of them. */
        long nextPlaces(long set) {
            long next = 0;
            for (int room = 0; room < ROOMS; room++) {
                // A product puts the rooms behind the doors into each level of which it tells.
                next |= (set >>> room & ALL_LEVELS) * doors[room];
            }
            next |= (set >>> small & ALL_LEVELS >>> ROOMS) << (ROOMS + gate);
            next |= (set >>> gate & ALL_LEVELS) >>> ROOMS << small;
            return next;
        }

        /** The levels in which a thing weighs no more than one is strong, as places of room 0. */
        long lightLevels(int one, int thing) {
            long set = 0;
            for (int level = 0; level < LEVELS; level++) {
                if (weightIn(thing, level) <= strengths[one]) {
                    set |= 1L << (level * ROOMS);
                }
            }
            return set;
        }

        boolean canCarry(int one, int thing) {
            return rooms[thing] == roomOf(one)
                    && weightIn(thing, levelOf(one)) <= strengths[one];
        }

        /** Whether one can REACH a thing at all, to some other room. */
        boolean canReach(int one, int thing) {
            int level = levelOf(one);
            return roomOf(one) == small && level < LEVELS - 1
                    && weightIn(thing, level + 1) <= strengths[one];
        }

        boolean canLift(int one, int other) {
            return roomOf(one) == small && levelOf(other) == levelOf(one) + 1;
        }

        int carryOver(int one, int thing, int room) {
            int whence = rooms[thing];
            moveTo(one, room);
            rooms[thing] = room;
            int hit = standingIn(room) - 1;
            enter(one, thing, whence, room, hit);
            return hit;
        }

        int reachOver(int one, int thing, int room) {
            int whence = rooms[thing];
            rooms[thing] = room;
            int hit = standingIn(room);
            enter(one, thing, whence, room, hit);
            return hit;
        }

        /** How many of the people are in a room, of any level. */
        private int standingIn(int room) {
            int number = 0;
            for (int one = 0; one < people; one++) {
                if (roomOf(one) == room) {
                    number++;
                }
            }
            return number;
        }

        private void enter(int one, int thing, int whence, int whither, int hit) {
            System.arraycopy(books, 0, books, BOOK_SIZE, (MOST_BOOKS - 1) * BOOK_SIZE);
            books[0] = one;
            books[1] = thing;
            books[2] = whence;
            books[3] = whither;
            books[4] = hit;
            if (booked < MOST_BOOKS) {
                booked++;
            }
            moves++;
            met += hit;
        }

        /** Rooms to which one CARRY or REACH of one brings a thing. */
        int roomsHitBy(int one, int thing) {
            int set = 0;
            if (canCarry(one, thing)) {
                set |= doors[roomOf(one)];
            }
            if (canReach(one, thing)) {
                set |= ~(1 << rooms[thing]);
            }
            return set;
        }

        int passDays(int n) {
            int before = met;
            for (int i = 0; i < n; i++) {
                for (int one = 0; one < people; one++) {
                    actByDraws(one);
                }
                day++;
            }
            return met - before;
        }

        private void actByDraws(int one) {
            int way = draw() % ROOMS;
            if (isOpen(roomOf(one), way)) {
                moveTo(one, way);
            }
            if (things <= 0 || roomOf(one) != small || levelOf(one) >= LEVELS - 1) {
                return;
            }
            int thing = draw() % things;
            int room = draw() % ROOMS;
            if (draw() % 100 < slip) {
                room = (room + 1) % ROOMS;
            }
            if (canReach(one, thing) && rooms[thing] != room) {
                reachOver(one, thing, room);
            }
        }

        private int draw() {
            z = z * 1103515245 + 12345;
            return z >>> 8;
        }

        int fullSpots() {
            int number = 0;
            for (int spot = 0; spot < SPOTS; spot++) {
                if (spots[spot] != NOTHING) {
                    number++;
                }
            }
            return number;
        }
    }

    /** Ways of one through places, and of one and a thing through a task: all of a step at once. */
    private static final class Search {
        /** For each room of the thing the places of one that were come to with it there. */
        private final long[] known = new long[ROOMS];
        /** Those of them that the latest step came to first, and what the next step comes to. */
        private final long[] edge = new long[ROOMS];
        private final long[] next = new long[ROOMS];
        /** For each room the fewest steps with which the thing comes there. */
        private final int[] fewest = new int[ROOMS];

        long placesFrom(World w, int start) {
            long all = 1L << start;
            long fresh = all;
            for (int i = 0; i < PLACES && fresh != 0; i++) {
                fresh = w.nextPlaces(fresh) & ~all;
                all |= fresh;
            }
            return all;
        }

        int stepsTo(World w, int start, int goal) {
            long all = 1L << start;
            long fresh = all;
            for (int i = 0; i < PLACES && fresh != 0; i++) {
                if ((fresh >>> goal & 1) == 1) {
                    return i;
                }
                fresh = w.nextPlaces(fresh) & ~all;
                all |= fresh;
            }
            return NEVER;
        }

        /** The fewest steps for a task, or NEVER. */
        int fewestFor(World w, int one, int thing, int room) {
            explore(w, one, thing, room, true);
            return fewest[room];
        }

        /** The rooms for which a task can be done, with REACH or without. */
        int roomsFor(World w, int one, int thing, boolean reaching) {
            explore(w, one, thing, ANY_ROOM, reaching);
            int set = 0;
            for (int room = 0; room < ROOMS; room++) {
                if (fewest[room] != NEVER) {
                    set |= 1 << room;
                }
            }
            return set;
        }

        private void explore(World w, int one, int thing, int goal, boolean reaching) {
            Arrays.fill(known, 0L);
            Arrays.fill(next, 0L);
            Arrays.fill(fewest, NEVER);
            next[w.rooms[thing]] = 1L << w.places[one];
            long light = w.lightLevels(one, thing);
            for (int step = 0; step < MOST_STEPS; step++) {
                boolean goesOn = settle(step);
                if (!goesOn || (goal != ANY_ROOM && fewest[goal] != NEVER)) {
                    return;
                }
                for (int room = 0; room < ROOMS; room++) {
                    if (edge[room] != 0) {
                        spread(w, room, light, reaching);
                    }
                }
            }
        }

        /** Makes what the latest step came to known: whether any of it is new. */
        private boolean settle(int step) {
            boolean isNew = false;
            for (int room = 0; room < ROOMS; room++) {
                edge[room] = next[room] & ~known[room];
                known[room] |= edge[room];
                next[room] = 0;
                if (edge[room] != 0) {
                    isNew = true;
                    if (fewest[room] == NEVER) {
                        fewest[room] = step;
                    }
                }
            }
            return isNew;
        }

        /** One step more from all places of the edge with the thing in a room. */
        private void spread(World w, int room, long light, boolean reaching) {
            next[room] |= w.nextPlaces(edge[room]);
            long carrying = edge[room] >>> room & light;
            // Whoever reaches in feels what the thing weighs one level below.
            long reaches = reaching ? edge[room] >>> w.small & light >>> ROOMS : 0;
            for (int to = 0; to < ROOMS; to++) {
                if (w.isOpen(room, to)) {
                    next[to] |= carrying << to;
                }
                next[to] |= reaches << w.small;
            }
        }
    }

    /** Bytes, and the tokens of which they are, each as long as can be. */
    private static final class Tape {
        static final int MOST_BYTES = 120;

        static final int END = 0;
        static final int WORD = 1;
        static final int NUMBER = 2;
        static final int SIGN = 3;
        static final int BLANK = 4;
        static final int OTHER = 5;

        private static final int MOST_NUMBER = 999;

        private final int[] bytes = new int[MOST_BYTES];
        int length;
        /** Of each token what it is, what it tells and where it begins. */
        private final int[] kinds = new int[MOST_BYTES];
        private final int[] values = new int[MOST_BYTES];
        private final int[] begins = new int[MOST_BYTES];
        private int tokens;

        void append(int word, int n) {
            for (int i = n - 1; i >= 0; i--) {
                if (length < MOST_BYTES) {
                    bytes[length] = word >>> (8 * i) & 255;
                    length++;
                }
            }
        }

        void split() {
            tokens = 0;
            int at = 0;
            for (int i = 0; i < MOST_BYTES && at < length; i++) {
                int end = endOf(at);
                int kind = kindOf(bytes[at]);
                if (kind != BLANK) {
                    addToken(kind, valueOf(kind, at, end), at);
                }
                at = end;
            }
        }

        /** What a token is; behind the last one END. */
        int kindAt(int token) {
            return token >= 0 && token < tokens ? kinds[token] : END;
        }

        int beginAt(int token) {
            return token >= 0 && token < tokens ? begins[token] : length;
        }

        /** The word (of Words), or NEVER. */
        int wordAt(int token) {
            boolean isWord = token >= 0 && token < tokens && kinds[token] == WORD;
            return isWord ? values[token] : NEVER;
        }

        /** The number, or NEVER. */
        int numberAt(int token) {
            boolean isNumber = token >= 0 && token < tokens && kinds[token] == NUMBER;
            return isNumber ? values[token] : NEVER;
        }

        private void addToken(int kind, int value, int begin) {
            if (tokens >= MOST_BYTES) {
                return;
            }
            kinds[tokens] = kind;
            values[tokens] = value;
            begins[tokens] = begin;
            tokens++;
        }

        private int endOf(int begin) {
            int kind = kindOf(bytes[begin]);
            int end = begin + 1;
            if (kind == WORD || kind == NUMBER) {
                while (end < length && kindOf(bytes[end]) == kind) {
                    end++;
                }
            }
            return end;
        }

        private static int kindOf(int sign) {
            if (sign >= 'a' && sign <= 'z') {
                return WORD;
            }
            if (sign >= '0' && sign <= '9') {
                return NUMBER;
            }
            if (sign == ';') {
                return SIGN;
            }
            return sign == ' ' ? BLANK : OTHER;
        }

        private int valueOf(int kind, int begin, int end) {
            switch (kind) {
                case WORD: return wordIn(begin, end);
                case NUMBER: return numberIn(begin, end);
                default: return 0;
            }
        }

        private int wordIn(int begin, int end) {
            for (int word = 0; word < Words.COUNT; word++) {
                if (isWordIn(Words.nameOf(word), begin, end)) {
                    return word;
                }
            }
            return NEVER;
        }

        private boolean isWordIn(String name, int begin, int end) {
            if (name.length() != end - begin) {
                return false;
            }
            for (int i = 0; i < end - begin; i++) {
                if (bytes[begin + i] != name.charAt(i)) {
                    return false;
                }
            }
            return true;
        }

        private int numberIn(int begin, int end) {
            int number = 0;
            for (int i = begin; i < end; i++) {
                // One more than the most stands for all that is more.
                number = Math.min(number * 10 + bytes[i] - '0', MOST_NUMBER + 1);
            }
            return number;
        }
    }

    /** The words of a text: those of the kinds by their numbers, and others behind them. */
    private static final class Words {
        static final int ONE = 7;
        static final int OPEN = 8;
        static final int SHUT = 9;
        static final int SMALL = 10;
        static final int GATE = 11;
        static final int SLIP = 12;
        static final int IN = 13;
        static final int BULK = 14;
        static final int LEVEL = 15;
        static final int STRONG = 16;
        static final int COUNT = 17;

        static String nameOf(int word) {
            switch (word) {
                case Kinds.THING: return "thing";
                case Kinds.CHAIR: return "chair";
                case Kinds.TABLE: return "table";
                case Kinds.BED: return "bed";
                case Kinds.LETTER: return "letter";
                case Kinds.KEY: return "key";
                case Kinds.LAMP: return "lamp";
                case ONE: return "one";
                case OPEN: return "open";
                case SHUT: return "shut";
                case SMALL: return "small";
                case GATE: return "gate";
                case SLIP: return "slip";
                case IN: return "in";
                case BULK: return "bulk";
                case LEVEL: return "level";
                case STRONG: return "strong";
                default: return "";
            }
        }
    }

    /** Reads its tape as a text, and keeps what its items tell until they are made so. */
    private static final class TextReader {
        static final int ITEM_SIZE = 4;
        static final int NEW_THING = 0;
        static final int NEW_ONE = 1;
        static final int NEW_DOOR = 2;
        static final int NEW_RULE = 3;
        /** The shortest items are words of three letters, with a sign between them. */
        private static final int MOST_ITEMS = (Tape.MOST_BYTES + 1) / 4;

        final Tape tape = new Tape();
        /** What each item does (NEW_THING to NEW_RULE), and three numbers that it tells. */
        final int[] items = new int[MOST_ITEMS * ITEM_SIZE];
        int count;
        /** The token that is to be read. */
        private int at;
        private int things;
        private int people;
        /** The first token that can't stand where it is, or NEVER. */
        private int wrong;

        /** The fault of the tape, or NEVER: then the items stand ready. */
        int parse(int thingsBefore, int peopleBefore) {
            things = thingsBefore;
            people = peopleBefore;
            count = 0;
            at = 0;
            wrong = NEVER;
            tape.split();
            boolean goesOn = true;
            for (int i = 0; i <= Tape.MOST_BYTES && goesOn; i++) {
                parseItem();
                goesOn = wrong == NEVER && tape.kindAt(at) != Tape.END;
                if (goesOn) {
                    takeSign();
                }
            }
            return wrong == NEVER ? NEVER : tape.beginAt(wrong);
        }

        private void parseItem() {
            int word = tape.wordAt(at);
            switch (word) {
                case Words.ONE: parseOne(); break;
                case Words.OPEN: parseDoor(1); break;
                case Words.SHUT: parseDoor(0); break;
                case Words.SMALL: parseRule(0, ROOMS - 1); break;
                case Words.GATE: parseRule(1, ROOMS - 1); break;
                case Words.SLIP: parseRule(2, MOST_SLIP); break;
                default:
                    if (isKind(word)) {
                        parseThing(word);
                    } else {
                        refuse();
                    }
                    break;
            }
        }

        private void parseThing(int kind) {
            if (things >= MOST_THINGS) {
                refuse();
                return;
            }
            things++;
            at++;
            int room = takePerhaps(Words.IN, 0, ROOMS - 1, 0);
            int bulk = takePerhaps(Words.BULK, 1, MOST_BULK, FIRST_BULK);
            addItem(NEW_THING, kind, room, bulk);
        }

        private void parseOne() {
            if (people >= MOST_PEOPLE) {
                refuse();
                return;
            }
            people++;
            at++;
            int room = takePerhaps(Words.IN, 0, ROOMS - 1, 0);
            int level = takePerhaps(Words.LEVEL, 0, LEVELS - 1, 0);
            int strength = takePerhaps(Words.STRONG, 0, MOST_STRONG, FIRST_STRONG);
            addItem(NEW_ONE, level * ROOMS + room, strength, 0);
        }

        private void parseDoor(int open) {
            at++;
            int a = takeNumber(0, ROOMS - 1, NEVER);
            int b = takeNumber(0, ROOMS - 1, a);
            addItem(NEW_DOOR, a, b, open);
        }

        private void parseRule(int what, int most) {
            at++;
            int v = takeNumber(0, most, NEVER);
            addItem(NEW_RULE, what, v, 0);
        }

        private int takePerhaps(int word, int least, int most, int otherwise) {
            if (tape.wordAt(at) != word) {
                return otherwise;
            }
            at++;
            return takeNumber(least, most, NEVER);
        }

        /** Takes a number from least to most that is not the barred one. */
        private int takeNumber(int least, int most, int barred) {
            int v = tape.numberAt(at);
            if (!isWithin(v, least, most) || v == barred) {
                refuse();
                return least;
            }
            at++;
            return v;
        }

        private void takeSign() {
            if (tape.kindAt(at) != Tape.SIGN) {
                refuse();
                return;
            }
            at++;
        }

        private void refuse() {
            if (wrong == NEVER) {
                wrong = at;
            }
        }

        private void addItem(int what, int a, int b, int c) {
            if (count >= MOST_ITEMS) {
                return;
            }
            int row = count * ITEM_SIZE;
            items[row] = what;
            items[row + 1] = a;
            items[row + 2] = b;
            items[row + 3] = c;
            count++;
        }
    }

    /** A row of numbers of 8, 16 or 32 bits, or missing. */
    private static final class Sheet {
        int bits;
        int length;
        final int[] numbers = new int[MOST_NUMBERS];

        boolean isMissing() {
            return bits == 0;
        }

        void renew(int newBits, int n) {
            bits = newBits;
            length = newBits == 0 ? 0 : n;
            Arrays.fill(numbers, 0);
        }

        void put(int i, int v) {
            switch (bits) {
                case 8: numbers[i] = (byte) v; break;
                case 16: numbers[i] = (short) v; break;
                default: numbers[i] = v; break;
            }
        }

        boolean hasRow(int from, int n) {
            return from >= 0 && n >= 0 && n <= length && from <= length - n;
        }
    }
}
