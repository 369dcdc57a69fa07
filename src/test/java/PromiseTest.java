/**
 * Each promise of the document by answers worked out by hand: ordinary inputs, the edges that the
 * document names, wrong inputs.
 */
public final class PromiseTest {
    private static final int BEYOND = -1000001;
    private static final int FULL = -1000002;
    private static final int KIND = -1000003;
    private static final int NONE = -1000004;
    private static final int STATE = -1000005;
    private static final int MISSING = -1000006;
    private static final int SIZE = -1000007;
    private static final int LEAST = Integer.MIN_VALUE;
    private static final int MOST = Integer.MAX_VALUE;

    private static int wrong = 0;

    private static void due(String call, long got, long want) {
        if (got != want) {
            wrong++;
            System.out.println(call + " answered " + got + ", due is " + want);
        }
    }

    public static void main(String[] args) {
        promise1();
        promises2And3();
        promises4To6();
        promises7To9();
        promise10();
        promises11To13();
        promise14();
        promise15();
        promise16();
        promises17And18();
        promises19And20();
        promises21To23();
        promise24();
        promise25();
        promise26();
        promise27();
        promises28And29();
        promise30();
        promise31();
        promises32And33();
        promise34();
        promise35();
        promise36();
        promises37And38();
        whenLate();
        dayLimit();
        promise39();
        promises40And41();
        promise42();
        faults();
        promises43And44();
        promises45And46();
        promise47();
        promise48();
        promise49();
        promises50To52();
        promises53And54();
        System.out.println(wrong == 0 ? "PromiseTest: all answers are as due" : wrong + " wrong");
        if (wrong != 0) {
            System.exit(1);
        }
    }

    private static void promise1() {
        HouseInRoom x = new HouseInRoom();
        int[] now = {0, 0, 3, 0, 0, 0, 0};
        for (int what = 0; what < 7; what++) {
            due("new: now " + what, x.now(what), now[what]);
        }
        int[] count = {0, 0, 0, 0, 0, 0, 1, 0};
        for (int what = 0; what < 8; what++) {
            due("new: count " + what, x.count(what), count[what]);
        }
        for (int a = 0; a < 8; a++) {
            for (int b = a + 1; b < 8; b++) {
                due("new: door", x.door(a, b, 0), b == a + 1 ? 1 : 0);
            }
        }
        for (int which = -1; which < 7; which++) {
            due("new: status", x.status(which), 0);
        }
        due("new: undo", x.undo(), NONE);
        due("new: tear", x.tear(), 0);
        due("new: wipe", x.wipe(), 0);
        due("new: load", x.load(3), MISSING);
        due("new: as", x.as(9, 0), MISSING);
    }

    private static void promises2And3() {
        HouseInRoom x = new HouseInRoom();
        due("door", x.door(7, 0, 1), 0);
        due("door, the other way", x.door(0, 7, 1), 1);
        due("door, shut", x.door(0, 7, 0), 1);
        due("door, shut again", x.door(7, 0, 0), 0);
        int[][] bad = {{-1, 0, 1}, {0, -1, 1}, {8, 0, 1}, {0, 8, 1}, {3, 3, 1}, {0, 1, 2},
            {0, 1, -1}, {LEAST, MOST, 0}};
        for (int[] b : bad) {
            due("door BEYOND", x.door(b[0], b[1], b[2]), BEYOND);
        }
        due("rule small", x.rule(0, 7), 3);
        due("rule small", x.rule(0, 0), 7);
        due("rule gate", x.rule(1, 7), 0);
        due("rule gate", x.rule(1, 2), 7);
        due("rule slip", x.rule(2, 100), 0);
        due("rule slip", x.rule(2, 0), 100);
        due("now small", x.now(2), 0);
        due("now gate", x.now(3), 2);
        due("now slip", x.now(4), 0);
        int[][] out = {{0, 8}, {0, -1}, {1, 8}, {1, -1}, {2, 101}, {2, -1}, {3, 0}, {-1, 0}};
        for (int[] b : out) {
            due("rule BEYOND", x.rule(b[0], b[1]), BEYOND);
        }
        due("status BEYOND", x.status(0), bad.length + out.length);
    }

    private static void promises4To6() {
        HouseInRoom x = new HouseInRoom();
        int[][] weights = {{41, 20, 10, 5, 2}, {42, 21, 11, 6, 3}, {84, 42, 22, 12, 6},
            {89, 47, 27, 17, 11}, {1, 1, 1, 1, 1}, {0, 0, 0, 0, 0}, {41, 41, 41, 41, 41}};
        for (int kind = 0; kind < 7; kind++) {
            due("thing", x.thing(kind, kind + 1), kind);
            due("of bulk at first", x.of(kind, 2), 8);
            due("change bulk", x.change(kind, 2, 41), 8);
            due("of kind", x.of(kind, 0), kind);
            due("of room", x.of(kind, 1), kind + 1);
            for (int level = 0; level < 5; level++) {
                due("weighs as " + kind, x.of(kind, 3 + level), weights[kind][level]);
            }
        }
        due("thing BEYOND", x.thing(7, 0), BEYOND);
        due("thing BEYOND", x.thing(-1, 0), BEYOND);
        due("thing BEYOND", x.thing(0, 8), BEYOND);
        due("thing BEYOND", x.thing(0, -1), BEYOND);
        due("the 8th thing", x.thing(0, 0), 7);
        due("thing FULL", x.thing(0, 0), FULL);
        due("thing BEYOND before FULL", x.thing(0, 8), BEYOND);
        due("of BEYOND", x.of(8, 0), BEYOND);
        due("of BEYOND", x.of(-1, 0), BEYOND);
        due("of BEYOND", x.of(0, 8), BEYOND);
        due("of BEYOND", x.of(0, -1), BEYOND);
        due("change kind", x.change(0, 0, 6), 0);
        due("change kind", x.change(0, 0, 3), 6);
        due("change room", x.change(0, 1, 0), 1);
        due("change room", x.change(0, 1, 7), 0);
        due("change bulk", x.change(0, 2, 60), 41);
        due("bed of bulk 60", x.of(0, 3), 127);
        due("change bulk", x.change(0, 2, 1), 60);
        due("bed of bulk 1, level 1", x.of(0, 4), 7);
        int[][] bad = {{8, 0, 0}, {-1, 0, 0}, {0, 3, 1}, {0, -1, 1}, {0, 0, 7}, {0, 0, -1},
            {0, 1, 8}, {0, 1, -1}, {0, 2, 0}, {0, 2, 61}, {LEAST, MOST, 1}};
        for (int[] b : bad) {
            due("change BEYOND", x.change(b[0], b[1], b[2]), BEYOND);
        }
        due("no change by a finding", x.of(0, 2), 1);
    }

    private static void promises7To9() {
        HouseInRoom x = new HouseInRoom();
        due("one", x.one(0), 0);
        due("one", x.one(39), 1);
        due("one BEYOND", x.one(40), BEYOND);
        due("one BEYOND", x.one(-1), BEYOND);
        due("one", x.one(11), 2);
        due("one", x.one(24), 3);
        due("one FULL", x.one(0), FULL);
        due("one BEYOND before FULL", x.one(40), BEYOND);
        due("tell place", x.tell(1, 0), 39);
        due("tell strong", x.tell(1, 1), 10);
        due("person place", x.person(1, 0, 8), 39);
        due("person strong", x.person(1, 1, 60), 10);
        due("person strong", x.person(1, 1, 0), 60);
        due("tell place", x.tell(1, 0), 8);
        due("tell strong", x.tell(1, 1), 0);
        due("tell another", x.tell(2, 0), 11);
        int[][] bad = {{4, 0, 0}, {-1, 0, 0}, {0, 2, 0}, {0, -1, 0}, {0, 0, 40}, {0, 0, -1},
            {0, 1, 61}, {0, 1, -1}};
        for (int[] b : bad) {
            due("person BEYOND", x.person(b[0], b[1], b[2]), BEYOND);
        }
        due("tell BEYOND", x.tell(4, 0), BEYOND);
        due("tell BEYOND", x.tell(-1, 0), BEYOND);
        due("tell BEYOND", x.tell(0, 2), BEYOND);
        due("tell BEYOND", x.tell(0, -1), BEYOND);
    }

    private static void promise10() {
        HouseInRoom x = new HouseInRoom();
        for (int i = 0; i < 8; i++) {
            x.thing(0, i % 3);
        }
        due("lie", x.lie(0), 0b01001001);
        due("lie", x.lie(1), 0b10010010);
        due("lie", x.lie(7), 0);
        due("lie BEYOND", x.lie(8), BEYOND);
        due("lie BEYOND", x.lie(-1), BEYOND);
    }

    private static void promises11To13() {
        HouseInRoom x = new HouseInRoom();
        x.one(0);
        due("walk", x.walk(0, 1), 1);
        due("walk to one's own room", x.walk(0, 1), STATE);
        due("walk, no door", x.walk(0, 3), STATE);
        due("in, not from small", x.in(0), STATE);
        due("out of the large house", x.out(0), STATE);
        x.rule(1, 1);
        due("out of the large house, from gate", x.out(0), STATE);
        x.rule(0, 1);
        due("in", x.in(0), 9);
        due("in", x.in(0), 17);
        x.door(1, 7, 1);
        due("walk in level 2", x.walk(0, 7), 23);
        due("in, not from small", x.in(0), STATE);
        due("out, not from gate", x.out(0), STATE);
        x.person(0, 0, 25);
        due("in to level 4", x.in(0), 33);
        due("in below level 4", x.in(0), STATE);
        x.rule(0, 5);
        x.rule(1, 2);
        x.person(0, 0, 34);
        due("out to small", x.out(0), 29);
        due("in to gate", x.in(0), 34);
        due("walk BEYOND", x.walk(1, 0), BEYOND);
        due("walk BEYOND", x.walk(-1, 0), BEYOND);
        due("walk BEYOND", x.walk(0, 8), BEYOND);
        due("walk BEYOND", x.walk(0, -1), BEYOND);
        due("in BEYOND", x.in(1), BEYOND);
        due("in BEYOND", x.in(-1), BEYOND);
        due("out BEYOND", x.out(1), BEYOND);
        due("out BEYOND", x.out(LEAST), BEYOND);
        due("steps are no moves", x.now(0), 0);
    }

    private static void promise14() {
        HouseInRoom x = new HouseInRoom();
        x.one(8);
        x.one(1);
        x.one(33);
        x.one(2);
        x.thing(0, 0);
        x.change(0, 2, 21);
        due("carry what weighs just as much", x.carry(0, 0, 1), 2);
        due("carry: with it", x.tell(0, 0), 9);
        due("carry: the thing", x.of(0, 1), 1);
        due("carry: the met stay", x.tell(1, 0), 1);
        due("carry: too heavy above", x.carry(1, 0, 2), STATE);
        x.person(1, 1, 21);
        due("carry", x.carry(1, 0, 2), 1);
        due("carry, not there", x.carry(0, 0, 2), STATE);
        due("carry, no door", x.carry(1, 0, 0), STATE);
        due("carry to where it is", x.carry(1, 0, 2), STATE);
        due("carry BEYOND", x.carry(4, 0, 1), BEYOND);
        due("carry BEYOND", x.carry(-1, 0, 1), BEYOND);
        due("carry BEYOND", x.carry(0, 1, 1), BEYOND);
        due("carry BEYOND", x.carry(0, -1, 1), BEYOND);
        due("carry BEYOND", x.carry(0, 0, 8), BEYOND);
        due("carry BEYOND", x.carry(0, 0, -1), BEYOND);
        due("met ever", x.now(5), 3);
        due("moves", x.now(0), 2);
    }

    private static void promise15() {
        HouseInRoom x = new HouseInRoom();
        x.one(3);
        x.one(11);
        x.one(5);
        x.thing(1, 6);
        x.change(0, 2, 18);
        due("reach: meets also oneself", x.reach(0, 0, 3), 2);
        due("reach: one stays", x.tell(0, 0), 3);
        due("reach: there already", x.reach(0, 0, 3), STATE);
        due("reach: from where one stands", x.reach(0, 0, 5), 1);
        due("reach: nobody there", x.reach(0, 0, 0), 0);
        x.change(0, 2, 20);
        due("reach: too heavy in level 1", x.reach(0, 0, 1), STATE);
        due("reach: not in level 2", x.reach(1, 0, 1), 0);
        due("reach: not from small", x.reach(2, 0, 4), STATE);
        x.person(2, 0, 35);
        due("reach: not from level 4", x.reach(2, 0, 4), STATE);
        x.person(2, 0, 27);
        due("reach: from level 3", x.reach(2, 0, 4), 0);
        due("reach BEYOND", x.reach(3, 0, 1), BEYOND);
        due("reach BEYOND", x.reach(-1, 0, 1), BEYOND);
        due("reach BEYOND", x.reach(0, 1, 1), BEYOND);
        due("reach BEYOND", x.reach(0, -1, 1), BEYOND);
        due("reach BEYOND", x.reach(0, 0, 8), BEYOND);
        due("reach BEYOND", x.reach(0, 0, -1), BEYOND);
        due("moves", x.now(0), 5);
        due("met ever", x.now(5), 3);
    }

    private static void promise16() {
        HouseInRoom x = new HouseInRoom();
        x.one(3);
        x.one(8);
        x.one(16);
        due("lift, no door", x.lift(0, 1, 7), 1);
        due("lift: the place", x.tell(1, 0), 15);
        due("lift: there already", x.lift(0, 1, 7), STATE);
        due("lift to small", x.lift(0, 1, 3), 2);
        due("lift in level 2 from 0", x.lift(0, 2, 3), STATE);
        due("lift in level 2 from 1", x.lift(1, 2, 3), 3);
        due("lift above oneself", x.lift(1, 0, 5), STATE);
        x.person(0, 0, 2);
        due("lift, not from small", x.lift(0, 1, 4), STATE);
        due("lift oneself", x.lift(0, 0, 4), BEYOND);
        due("lift BEYOND", x.lift(3, 0, 4), BEYOND);
        due("lift BEYOND", x.lift(0, 3, 4), BEYOND);
        due("lift BEYOND", x.lift(-1, 0, 4), BEYOND);
        due("lift BEYOND", x.lift(0, -1, 4), BEYOND);
        due("lift BEYOND", x.lift(0, 1, 8), BEYOND);
        due("lift BEYOND", x.lift(0, 1, -1), BEYOND);
        due("lift is in no book", x.now(6), 0);
        due("lift meets nobody", x.now(5), 0);
        due("moves", x.now(0), 3);
    }

    private static void promises17And18() {
        HouseInRoom x = new HouseInRoom();
        x.one(3);
        x.one(12);
        x.thing(0, 7);
        x.thing(5, 3);
        due("no book", x.book(0, 0), NONE);
        due("carry", x.carry(0, 1, 4), 1);
        x.walk(0, 3);
        due("reach", x.reach(0, 0, 3), 1);
        int[] latest = {0, 0, 7, 3, 1};
        int[] before = {0, 1, 3, 4, 1};
        for (int what = 0; what < 5; what++) {
            due("book 0", x.book(0, what), latest[what]);
            due("book 1", x.book(1, what), before[what]);
        }
        due("book NONE", x.book(2, 0), NONE);
        due("book NONE", x.book(MOST, 4), NONE);
        due("book BEYOND", x.book(-1, 0), BEYOND);
        due("book BEYOND", x.book(0, 5), BEYOND);
        due("book BEYOND", x.book(0, -1), BEYOND);
        due("book BEYOND before NONE", x.book(5, 5), BEYOND);
        for (int i = 0; i < 11; i++) {
            due("reach", x.reach(0, 1, i % 2 == 0 ? 0 : 1), 0);
        }
        due("books are 12", x.now(6), 12);
        due("book 11", x.book(11, 1), 0);
        due("book 12", x.book(12, 0), NONE);
        due("moves", x.now(0), 13);
        due("met", x.now(5), 2);
        due("now BEYOND", x.now(7), BEYOND);
        due("now BEYOND", x.now(-1), BEYOND);
    }

    private static void promises19And20() {
        HouseInRoom x = new HouseInRoom();
        x.one(0);
        due("ways", x.ways(0), 0xffffffffffL);
        due("far, to oneself", x.far(0, 0), 0);
        due("far, along the doors", x.far(0, 7), 7);
        due("far, into the small house", x.far(0, 8), 4);
        due("far, to the last place", x.far(0, 39), 23);
        x.person(0, 0, 39);
        due("far, out again", x.far(0, 7), 7 + 1 + 3 * 4 + 4);
        x.door(2, 3, 0);
        due("ways behind a shut door", x.ways(0), 0xf800000000L);
        due("far NONE", x.far(0, 0), NONE);
        x.rule(1, 5);
        due("ways with the gate there", x.ways(0), 0xf8f8f8f8f8L);
        x.rule(0, 1);
        due("ways out of one's part", x.ways(0), 0xf807000000L);
        due("ways BEYOND", x.ways(1), BEYOND);
        due("ways BEYOND", x.ways(-1), BEYOND);
        due("far BEYOND", x.far(1, 0), BEYOND);
        due("far BEYOND", x.far(-1, 0), BEYOND);
        due("far BEYOND", x.far(0, 40), BEYOND);
        due("far BEYOND", x.far(0, -1), BEYOND);
        due("nothing changes", x.tell(0, 0), 39);
    }

    private static void promises21To23() {
        HouseInRoom x = new HouseInRoom();
        x.one(0);
        x.one(1);
        x.one(35);
        x.thing(0, 1);
        due("task: it is there", x.task(0, 0, 1), 0);
        due("task: by carry", x.task(0, 0, 2), 2);
        due("task: by reach from small", x.task(0, 0, 7), 4);
        due("task: by reach, nearer", x.task(1, 0, 7), 3);
        due("task: carry or reach alike", x.task(1, 0, 4), 3);
        due("task: from the lowest level", x.task(2, 0, 7), 5);
        due("who", x.who(0, 7), 1);
        due("who: there already, the least", x.who(0, 1), 0);
        due("can", x.can(0, 0), 255);
        x.change(0, 0, 6);
        x.change(0, 2, 11);
        due("task NONE: too heavy in all levels", x.task(0, 0, 7), NONE);
        due("can: where it is", x.can(0, 0), 2);
        due("who NONE", x.who(0, 7), NONE);
        x.person(2, 1, 11);
        due("who: the only one", x.who(0, 7), 2);
        x.person(0, 0, 1);
        x.person(0, 1, 11);
        x.person(1, 1, 11);
        due("who: of two the least", x.who(0, 2), 0);
        due("task BEYOND", x.task(3, 0, 0), BEYOND);
        due("task BEYOND", x.task(-1, 0, 0), BEYOND);
        due("task BEYOND", x.task(0, 1, 0), BEYOND);
        due("task BEYOND", x.task(0, -1, 0), BEYOND);
        due("task BEYOND", x.task(0, 0, 8), BEYOND);
        due("task BEYOND", x.task(0, 0, -1), BEYOND);
        due("who BEYOND", x.who(1, 0), BEYOND);
        due("who BEYOND", x.who(-1, 0), BEYOND);
        due("who BEYOND", x.who(0, 8), BEYOND);
        due("who BEYOND", x.who(0, -1), BEYOND);
        due("can BEYOND", x.can(3, 0), BEYOND);
        due("can BEYOND", x.can(0, 1), BEYOND);
        due("can BEYOND", x.can(-1, 0), BEYOND);
        due("can BEYOND", x.can(0, -1), BEYOND);
        due("nothing changes", x.of(0, 1), 1);
    }

    private static void promise24() {
        HouseInRoom x = new HouseInRoom();
        x.one(3);
        x.thing(0, 0);
        due("above: all can be carried", x.above(0, 0), 0);
        x.door(5, 6, 0);
        due("above: what no door leads to", x.above(0, 0), 0b11000000);
        x.change(0, 2, 20);
        due("above: carried in the small house", x.above(0, 0), 0b11000000);
        x.rule(1, 7);
        due("above: only from above", x.above(0, 0), 0b11111110);
        x.person(0, 1, 9);
        due("above: from level 1", x.above(0, 0), 0);
        due("above BEYOND", x.above(1, 0), BEYOND);
        due("above BEYOND", x.above(-1, 0), BEYOND);
        due("above BEYOND", x.above(0, 1), BEYOND);
        due("above BEYOND", x.above(0, -1), BEYOND);
    }

    private static void promise25() {
        HouseInRoom x = new HouseInRoom();
        x.one(3);
        x.thing(3, 3);
        due("strong: there already", x.strong(0, 0, 3), 0);
        due("strong: a bed in level 4", x.strong(0, 0, 4), 7);
        x.door(3, 4, 0);
        x.door(2, 3, 0);
        due("strong: a bed by reach from here", x.strong(0, 0, 4), 15);
        x.rule(0, 0);
        due("strong NONE", x.strong(0, 0, 4), NONE);
        x.change(0, 0, 6);
        x.change(0, 2, 60);
        x.rule(0, 3);
        due("strong: a lamp of 60", x.strong(0, 0, 4), 60);
        x.change(0, 0, 5);
        due("strong: a key", x.strong(0, 0, 4), 0);
        due("strong stays", x.tell(0, 1), 10);
        for (int r = 3; r < 7; r++) {
            x.door(r, r + 1, 0);
        }
        x.rule(0, 6);
        x.person(0, 0, 0);
        x.change(0, 0, 0);
        x.change(0, 1, 0);
        x.change(0, 2, 7);
        due("strong: no way to a smaller house", x.strong(0, 0, 1), 7);
        due("strong BEYOND", x.strong(1, 0, 0), BEYOND);
        due("strong BEYOND", x.strong(0, 1, 0), BEYOND);
        due("strong BEYOND", x.strong(0, 0, 8), BEYOND);
        due("strong BEYOND", x.strong(-1, 0, 0), BEYOND);
    }

    private static void promise26() {
        HouseInRoom x = new HouseInRoom();
        x.one(3);
        x.thing(3, 0);
        x.change(0, 2, 24);
        due("kindFor: a thing of 12 is too heavy, a letter not", x.kindFor(0, 0, 7), 4);
        x.person(0, 1, 12);
        due("kindFor: a thing", x.kindFor(0, 0, 7), 0);
        due("kindFor: there already", x.kindFor(0, 0, 0), 0);
        x.person(0, 1, 0);
        due("kindFor: a key alone", x.kindFor(0, 0, 7), 5);
        x.rule(0, 6);
        x.door(3, 4, 0);
        x.door(0, 1, 0);
        due("kindFor NONE", x.kindFor(0, 0, 7), NONE);
        due("kindFor: nothing changes", x.of(0, 0), 3);
        due("kindFor BEYOND", x.kindFor(1, 0, 0), BEYOND);
        due("kindFor BEYOND", x.kindFor(0, 1, 0), BEYOND);
        due("kindFor BEYOND", x.kindFor(0, 0, 8), BEYOND);
        due("kindFor BEYOND", x.kindFor(0, -1, 0), BEYOND);
    }

    private static void promise27() {
        HouseInRoom x = new HouseInRoom();
        x.one(6);
        x.thing(0, 0);
        due("place: where one stands", x.place(0, 0, 5), 6);
        due("place: there already", x.place(0, 0, 0), 0);
        x.person(0, 0, 1);
        due("place: carried as soon as reached", x.place(0, 0, 1), 1);
        x.person(0, 0, 0);
        due("place: carried in one step, so any", x.place(0, 0, 1), 0);
        x.change(0, 0, 6);
        x.change(0, 2, 60);
        due("place NONE", x.place(0, 0, 5), NONE);
        due("place: nothing changes", x.now(2), 3);
        due("place BEYOND", x.place(1, 0, 0), BEYOND);
        due("place BEYOND", x.place(0, 1, 0), BEYOND);
        due("place BEYOND", x.place(0, 0, 8), BEYOND);
        due("place BEYOND", x.place(0, 0, -1), BEYOND);
    }

    private static void promises28And29() {
        HouseInRoom x = new HouseInRoom();
        due("safe without people", x.safe(), 255);
        due("selves without people", x.selves(), 0);
        x.one(5);
        due("safe without things", x.safe(), 255);
        x.thing(0, 5);
        due("safe: one carries to 4 and 6", x.safe(), 255 - 16 - 64);
        due("selves: nobody at small", x.selves(), 0);
        x.one(3);
        due("safe: one reaches all but where it is", x.safe(), 32);
        due("selves", x.selves(), 2);
        x.thing(4, 0);
        due("safe: two things", x.safe(), 0);
        x.change(1, 0, 0);
        x.change(1, 2, 60);
        due("safe: too heavy to reach", x.safe(), 32);
        x.change(0, 1, 3);
        due("selves: it is there already", x.selves(), 0);
        x.person(0, 0, 35);
        due("selves: not in level 4", x.selves(), 0);
        x.change(0, 1, 2);
        due("selves", x.selves(), 2);
        x.person(0, 0, 27);
        due("selves: two", x.selves(), 3);
        due("safe: nothing changes", x.now(0), 0);
    }

    private static void promise30() {
        HouseInRoom x = new HouseInRoom();
        x.one(3);
        x.one(11);
        x.one(4);
        x.thing(0, 5);
        x.thing(0, 6);
        due("agree: one thing to two rooms", x.agree(0, 10, 1, 20), 0);
        due("agree: one thing to one room", x.agree(0, 10, 1, 10), 1);
        due("agree: two things", x.agree(0, 10, 1, 21), 1);
        due("agree: one can't", x.agree(0, 10, 2, 20), 1);
        due("agree: it is there already for one", x.agree(0, 50, 1, 20), 0);
        x.change(0, 2, 40);
        due("agree: too heavy for the first", x.agree(0, 10, 1, 20), 1);
        due("agree: as it was", x.of(0, 1), 5);
        int[][] bad = {{0, 10, 0, 20}, {3, 10, 0, 20}, {0, 10, 3, 20}, {0, 12, 1, 20},
            {0, 10, 1, 22}, {0, 80, 1, 20}, {0, 10, 1, 80}, {0, -1, 1, 20}, {0, 10, 1, -10},
            {-1, 10, 1, 20}, {0, 10, -1, 20}, {0, LEAST, 1, MOST}};
        for (int[] b : bad) {
            due("agree BEYOND", x.agree(b[0], b[1], b[2], b[3]), BEYOND);
        }
    }

    private static void promise31() {
        HouseInRoom x = new HouseInRoom();
        x.one(0);
        x.thing(0, 0);
        due("opens: carried at once", x.opens(0, 0, 7), 7);
        x.change(0, 1, 7);
        due("opens: nearer to small", x.opens(0, 0, 5), 3);
        x.change(0, 1, 0);
        x.person(0, 0, 3);
        due("opens: any, the least", x.opens(0, 0, 5), 2);
        due("opens: there already", x.opens(0, 0, 0), 2);
        x.rule(0, 7);
        x.door(3, 4, 0);
        due("opens: the way to small", x.opens(0, 0, 5), 37);
        x.change(0, 0, 6);
        x.change(0, 2, 60);
        due("opens NONE: none lets it", x.opens(0, 0, 5), NONE);
        due("opens: nothing changes", x.door(3, 7, 0), 0);
        for (int a = 0; a < 8; a++) {
            for (int b = a + 1; b < 8; b++) {
                x.door(a, b, 1);
            }
        }
        due("opens NONE: none is shut", x.opens(0, 0, 0), NONE);
        due("opens BEYOND", x.opens(1, 0, 0), BEYOND);
        due("opens BEYOND", x.opens(0, 1, 0), BEYOND);
        due("opens BEYOND", x.opens(0, 0, 8), BEYOND);
        due("opens BEYOND", x.opens(0, 0, -1), BEYOND);
    }

    private static void promises32And33() {
        HouseInRoom x = new HouseInRoom();
        due("copies", x.copies(3, 4), 81);
        due("copies, level 0", x.copies(9, 0), 1);
        due("copies of one", x.copies(1, 62), 1);
        due("copies, just below", x.copies(2, 61), 2305843009213693952L);
        due("copies SIZE", x.copies(2, 62), SIZE);
        due("copies, just below", x.copies(5, 26), 1490116119384765625L);
        due("copies SIZE", x.copies(5, 27), SIZE);
        due("copies, the most there are", x.copies(7, 22), 3909821048582988049L);
        due("copies SIZE, hardly", x.copies(3, 39), SIZE);
        due("copies", x.copies(3, 38), 1350851717672992089L);
        due("copies SIZE", x.copies(9, 62), SIZE);
        due("all", x.all(3, 4), 121);
        due("all, level 0", x.all(7, 0), 1);
        due("all of one", x.all(1, 62), 63);
        due("all, just below", x.all(2, 60), 2305843009213693951L);
        due("all SIZE", x.all(2, 61), SIZE);
        due("all, just below", x.all(3, 38), 2026277576509488133L);
        due("all SIZE", x.all(7, 22), SIZE);
        due("all SIZE", x.all(9, 62), SIZE);
        int[][] bad = {{0, 0}, {10, 0}, {1, -1}, {1, 63}, {LEAST, MOST}};
        for (int[] b : bad) {
            due("copies BEYOND", x.copies(b[0], b[1]), BEYOND);
            due("all BEYOND", x.all(b[0], b[1]), BEYOND);
        }
        due("findings in longs count", x.status(6), 7);
        due("findings in longs count", x.status(0), 10);
    }

    private static void promise34() {
        HouseInRoom x = new HouseInRoom();
        due("weight above", x.weight(1, 2, 0), 7);
        due("weight below", x.weight(1, 2, 1), 4);
        due("weight of 2", x.weight(2, 30, 0), 31);
        due("weight of 2", x.weight(2, 30, 1), 1);
        due("weight of 3", x.weight(3, 2, 0), 19);
        due("weight of 3", x.weight(3, 2, 1), 4);
        due("weight of 4", x.weight(4, 3, 0), 15);
        due("weight of 6", x.weight(6, 2, 0), 13);
        due("weight, level 0", x.weight(9, 0, 0), 1);
        due("weight, level 0", x.weight(9, 0, 1), 1);
        due("weight of 1, to the end", x.weight(1, 30, 0), 2147483647L);
        due("weight of 1, to the end", x.weight(1, 30, 1), 1073741824L);
        due("weight of 9", x.weight(9, 12, 0), 363123688591L);
        due("weight SIZE", x.weight(9, 13, 0), SIZE);
        due("weight SIZE, below as well", x.weight(9, 13, 1), SIZE);
        due("weight of 8", x.weight(8, 19, 0), 366503875925L);
        due("weight SIZE", x.weight(8, 20, 0), SIZE);
        int[][] bad = {{0, 0, 0}, {10, 0, 0}, {1, -1, 0}, {1, 31, 0}, {1, 0, -1}, {1, 0, 2}};
        for (int[] b : bad) {
            due("weight BEYOND", x.weight(b[0], b[1], b[2]), BEYOND);
        }
        due("weight BEYOND before SIZE", x.weight(9, 30, 2), BEYOND);
    }

    private static void promise35() {
        HouseInRoom x = new HouseInRoom();
        due("deep", x.deep(3, 9), 2);
        due("deep, one more", x.deep(3, 10), 3);
        due("deep, 1", x.deep(5, 1), 0);
        due("deep, the most", x.deep(2, 2000000000), 31);
        due("deep NONE", x.deep(1, 2), NONE);
        due("deep BEYOND", x.deep(0, 1), BEYOND);
        due("deep BEYOND", x.deep(10, 1), BEYOND);
        due("deep BEYOND", x.deep(2, 0), BEYOND);
        due("deep BEYOND", x.deep(2, 2000000001), BEYOND);
        due("deep BEYOND", x.deep(2, LEAST), BEYOND);
    }

    /** The draw that z gives next. */
    private static int drawFrom(int z) {
        return (z * 1103515245 + 12345) >>> 8;
    }

    private static int after(int z, int draws) {
        int v = z;
        for (int i = 0; i < draws; i++) {
            v = v * 1103515245 + 12345;
        }
        return v;
    }

    private static void promise36() {
        HouseInRoom x = new HouseInRoom();
        x.one(3);
        x.thing(0, 0);
        // With all doors of room 3 shut it stays at small, and draws four times a day.
        x.door(2, 3, 0);
        x.door(3, 4, 0);
        int z = 1;
        int room = 0;
        int met = 0;
        int moves = 0;
        for (int day = 1; day <= 12; day++) {
            int slip = day <= 6 ? 0 : 100;
            x.rule(2, slip);
            int aim = (drawFrom(after(z, 2)) % 8 + (slip == 0 ? 0 : 1)) % 8;
            int hit = aim == 3 && room != 3 ? 1 : 0;
            moves += aim == room ? 0 : 1;
            room = aim;
            met += hit;
            z = after(z, 4);
            due("days 1, day " + day, x.days(1), hit);
            due("where it lies, day " + day, x.of(0, 1), room);
            due("z, day " + day, x.count(6), z);
            due("day", x.now(1), day);
        }
        due("moves in days", x.now(0), moves);
        due("met in days", x.now(5), met);
        due("books in days", x.book(0, 3), room);
        x.person(0, 1, 3);
        due("days: too heavy", x.days(2), 0);
        due("days: too heavy, but drawn", x.count(6), after(z, 8));
        due("days: too heavy", x.now(0), moves);
        x.person(0, 0, 4);
        z = x.seed(7);
        int way = drawFrom(7) % 8;
        due("days BEYOND", x.days(0), BEYOND);
        due("days BEYOND", x.days(61), BEYOND);
        due("days BEYOND", x.days(-1), BEYOND);
        due("day", x.now(1), 14);
        due("days", x.days(1), 0);
        due("one walks by a draw", x.tell(0, 0), way == 5 ? 5 : 4);
        due("one draw away from small", x.count(6), after(7, 1));
        x.person(0, 0, 35);
        x.seed(7);
        x.days(1);
        due("one draw in level 4", x.count(6), after(7, 1));
        HouseInRoom y = new HouseInRoom();
        y.one(3);
        y.door(2, 3, 0);
        y.door(3, 4, 0);
        due("days at small without things", y.days(60), 0);
        due("one draw a day without things", y.count(6), after(1, 60));
    }

    /** Where one that stays at small reaches on a day that begins with z, with a SLIP of 50. */
    private static int aimOf(int z) {
        int slip = drawFrom(after(z, 3)) % 100 < 50 ? 1 : 0;
        return (drawFrom(after(z, 2)) % 8 + slip) % 8;
    }

    /** Whether a thing comes to room 5 on day 60 first, by one shut in at small. */
    private static boolean isLate(int seed) {
        int z = seed;
        for (int day = 1; day < 60; day++) {
            if (aimOf(z) == 5) {
                return false;
            }
            z = after(z, 4);
        }
        return aimOf(z) == 5;
    }

    private static void whenLate() {
        int seed = 0;
        while (seed < 10000000 && !isLate(seed)) {
            seed++;
        }
        HouseInRoom x = new HouseInRoom();
        x.one(3);
        x.thing(0, 0);
        x.door(2, 3, 0);
        x.door(3, 4, 0);
        x.rule(2, 50);
        x.seed(seed);
        due("when: on day 60", x.when(0, 5), 60);
        due("when: nothing changes", x.now(1), 0);
        x.seed(after(seed, 4));
        due("when: on day 59 of those behind", x.when(0, 5), 59);
    }

    private static void promises37And38() {
        HouseInRoom x = new HouseInRoom();
        x.one(3);
        x.one(11);
        x.one(2);
        x.thing(0, 0);
        x.thing(1, 5);
        x.rule(2, 30);
        due("ahead 0", x.ahead(0, 0), 0);
        due("ahead 0", x.ahead(0, 2), 5);
        int[] rooms = new int[61];
        int[] mets = new int[61];
        for (int n = 0; n <= 60; n++) {
            rooms[n] = x.ahead(n, 1);
            mets[n] = x.ahead(n, 0);
        }
        due("ahead changes nothing", x.count(6), 1);
        due("ahead changes nothing", x.now(1), 0);
        due("when: now", x.when(0, 0), 0);
        for (int room = 0; room < 8; room++) {
            int first = 0;
            while (first <= 60 && rooms[first] != room) {
                first++;
            }
            due("when", x.when(0, room), first <= 60 ? first : NONE);
        }
        due("ahead BEYOND", x.ahead(-1, 0), BEYOND);
        due("ahead BEYOND", x.ahead(61, 0), BEYOND);
        due("ahead BEYOND: no such thing", x.ahead(1, 3), BEYOND);
        due("ahead BEYOND", x.ahead(1, 9), BEYOND);
        due("ahead BEYOND", x.ahead(1, -1), BEYOND);
        due("ahead BEYOND", x.ahead(1, LEAST), BEYOND);
        due("when BEYOND", x.when(2, 0), BEYOND);
        due("when BEYOND", x.when(-1, 0), BEYOND);
        due("when BEYOND", x.when(0, 8), BEYOND);
        due("when BEYOND", x.when(0, -1), BEYOND);
        int met = 0;
        for (int n = 1; n <= 60; n++) {
            met += x.days(1);
            due("ahead told the met of " + n, mets[n], met);
            due("ahead told the room of " + n, rooms[n], x.of(0, 1));
        }
        x.person(0, 1, 0);
        x.person(1, 1, 0);
        x.person(2, 1, 0);
        due("when NONE", x.when(0, (x.of(0, 1) + 1) % 8), NONE);
    }

    private static void dayLimit() {
        HouseInRoom x = new HouseInRoom();
        x.thing(0, 2);
        for (int i = 0; i < 165; i++) {
            x.days(60);
        }
        due("day", x.days(39), 0);
        due("day", x.now(1), 9939);
        due("when at 9939", x.when(0, 2), 0);
        due("ahead at 9939", x.ahead(60, 1), 2);
        due("days 1", x.days(1), 0);
        due("when STATE", x.when(0, 2), STATE);
        due("when BEYOND before STATE", x.when(1, 2), BEYOND);
        due("ahead STATE", x.ahead(60, 1), STATE);
        due("ahead BEYOND before STATE", x.ahead(60, 2), BEYOND);
        due("ahead 59", x.ahead(59, 1), 2);
        due("days STATE", x.days(60), STATE);
        due("days 59", x.days(59), 0);
        due("day 9999", x.count(0), 9999);
        due("days STATE", x.days(1), STATE);
        due("days BEYOND before STATE", x.days(61), BEYOND);
        due("ahead 0 at the end", x.ahead(0, 0), 0);
        due("status STATE", x.status(4), 4);
    }

    private static void promise39() {
        HouseInRoom x = new HouseInRoom();
        due("seed", x.seed(BEYOND), 1);
        due("count z", x.count(6), BEYOND);
        due("seed", x.seed(SIZE), BEYOND);
        due("seed", x.seed(LEAST), SIZE);
        due("seed", x.seed(MOST), LEAST);
        due("z is no finding", x.status(-1), 0);
    }

    private static void promises40And41() {
        HouseInRoom x = new HouseInRoom();
        due("feed BEYOND", x.feed(0, 0), BEYOND);
        due("feed BEYOND", x.feed(0, 5), BEYOND);
        due("feed BEYOND", x.feed(0, -1), BEYOND);
        due("feed, the lowest alone", x.feed('o' << 24 | 'n' << 16 | 'o', 1), 1);
        due("feed, the highest first", x.feed('z' << 24 | 'n' << 8 | 'e', 2), 3);
        due("text", x.text(), 1);
        for (int i = 0; i < 29; i++) {
            due("feed", x.feed(-1, 4), 4 * i + 4);
        }
        due("feed", x.feed(-1, 3), 119);
        due("feed FULL", x.feed(-1, 2), FULL);
        due("feed FULL", x.feed(-1, 4), FULL);
        due("feed BEYOND before FULL", x.feed(-1, 5), BEYOND);
        due("feed the last", x.feed(-1, 1), 120);
        due("feed FULL", x.feed(-1, 1), FULL);
        due("count bytes", x.count(5), 120);
        due("wipe", x.wipe(), 120);
        due("wipe", x.wipe(), 0);
        due("count bytes", x.count(5), 0);
    }

    private static int text(HouseInRoom x, String text) {
        x.wipe();
        for (int i = 0; i < text.length(); i++) {
            x.feed(text.charAt(i), 1);
        }
        int answer = x.text();
        due("the tape is empty behind " + text, x.count(5), 0);
        return answer;
    }

    private static void promise42() {
        HouseInRoom x = new HouseInRoom();
        due("text", text(x, "thing;chair in 3;table bulk 5;bed in07bulk060;letter;key;lamp"), 7);
        for (int kind = 0; kind < 7; kind++) {
            due("text: kind", x.of(kind, 0), kind);
            due("text: room", x.of(kind, 1), kind == 1 ? 3 : kind == 3 ? 7 : 0);
            due("text: bulk", x.of(kind, 2), kind == 2 ? 5 : kind == 3 ? 60 : 8);
        }
        due("text", text(x, "one ; one in 7; one level 4 strong 0;one in 1 level 2 strong 60"), 4);
        int[] places = {0, 7, 32, 17};
        int[] strengths = {10, 10, 0, 60};
        for (int one = 0; one < 4; one++) {
            due("text: place", x.tell(one, 0), places[one]);
            due("text: strong", x.tell(one, 1), strengths[one]);
        }
        due("text", text(x, " open 1 7;shut 1 0 ;small 6;gate 5;slip 100 "), 5);
        due("text: open", x.door(7, 1, 0), 1);
        due("text: shut", x.door(0, 1, 0), 0);
        due("text: small", x.now(2), 6);
        due("text: gate", x.now(3), 5);
        due("text: slip", x.now(4), 100);
        due("text: item by item", text(x, "open 1 7;shut 7 1;slip 4;slip 3"), 4);
        due("text: the later counts", x.door(7, 1, 0), 0);
        due("text: the later counts", x.now(4), 3);
        due("text: the 8th thing", text(x, "lamp in 4"), 1);
        due("text: a 9th", text(x, "slip 9; lamp"), -9);
        due("text: a 5th one", text(x, "one"), -1);
        due("text: nothing changes", x.now(4), 3);
        due("text: no finding", x.status(-1), 0);
        HouseInRoom y = new HouseInRoom();
        StringBuilder many = new StringBuilder("key;key;key;key;key;key;key;key;one;one;one;one");
        for (int i = 0; i < 12; i++) {
            many.append(";slip").append(i % 10);
        }
        due("text: of 119 bytes", many.length(), 119);
        due("text: many items", text(y, many.toString()), 24);
        due("text: the last item", y.now(4), 1);
    }

    private static void fault(String text, int at) {
        HouseInRoom x = new HouseInRoom();
        due("text \"" + text + "\"", text(x, text), -1 - at);
        due("nothing changes", x.count(1) + x.count(2) + x.now(4), 0);
        due("no finding", x.status(-1), 0);
    }

    private static void faults() {
        fault("", 0);
        fault("   ", 3);
        fault("chairs", 0);
        fault("chair;", 6);
        fault("chair; ", 7);
        fault("chair;;", 6);
        fault(";chair", 0);
        fault("7", 0);
        fault("chair chair", 6);
        fault("chair in", 8);
        fault("chair in 8", 9);
        fault("chair in in", 9);
        fault("chair in 1 in 2", 11);
        fault("chair in 1 2", 11);
        fault("chair bulk 0", 11);
        fault("chair bulk 61", 11);
        fault("chair bulk 1 in 1", 13);
        fault("chair bulk 9999999999999", 11);
        fault("chair bulk 4294967297", 11);
        fault("chair level 1", 6);
        fault("chairin 3", 0);
        fault("one bulk 1", 4);
        fault("one in 8", 7);
        fault("one level 5", 10);
        fault("one strong 61", 11);
        fault("one strong 6 level 1", 13);
        fault("one level 1 in 1", 12);
        fault("slip 5;open 1", 13);
        fault("slip 5;open 1 1", 14);
        fault("slip 5;open 01 1", 15);
        fault("slip 5;open 8 1", 12);
        fault("slip 5;shut 1 8", 14);
        fault("slip 5;shut 12", 12);
        fault("slip 5;small 8", 13);
        fault("slip 5;gate x", 12);
        fault("slip 101", 5);
        fault("slip 1000", 5);
        fault("slip -1", 5);
        fault("slip 5 Chair", 7);
        fault("slip 5;Chair", 7);
        fault("slip 5;\tchair", 7);
        fault("slip 5;ch\u00e9", 7);
        fault("slip 5;key\u00e9", 10);
        fault("slip 5;{", 7);
        fault("key" + ";".repeat(117), 4);
        fault("; ".repeat(60), 0);
        fault("keyz", 0);
        fault("key`", 3);
        fault("akey", 0);
        fault("xed", 0);
        fault("slip 5/", 6);
        fault("slip 59:", 7);
        fault("slip 5;gate 8", 12);
        fault("slip 5;`", 7);
        fault("slip 5:", 6);
        fault("slip /", 5);
        fault("one;one;one;one;one", 16);
        fault("key;key;key;key;key;key;key;bed;bed", 32);
    }

    private static void promises43And44() {
        HouseInRoom x = new HouseInRoom();
        due("hold BEYOND: no thing", x.hold(0, 0), BEYOND);
        due("hold nothing", x.hold(0, -1), 1);
        for (int kind = 0; kind < 7; kind++) {
            x.thing(kind, 0);
            due("hold", x.hold(kind, kind), 1);
        }
        int[] above = {0b1, 0b11, 0b111, 0b1111, 0b10001, 0b110001, 0b1000001};
        for (int kind = 0; kind < 7; kind++) {
            for (int wanted = 0; wanted < 7; wanted++) {
                due("as", x.as(kind, wanted), (above[kind] >> wanted & 1) == 1 ? kind : KIND);
            }
        }
        due("count spots", x.count(7), 7);
        due("hold nothing", x.hold(6, -1), 1);
        due("count spots", x.count(7), 6);
        due("as MISSING", x.as(6, 0), MISSING);
        due("as MISSING", x.as(9, 6), MISSING);
        due("as BEYOND before MISSING", x.as(9, 7), BEYOND);
        due("as BEYOND", x.as(0, -1), BEYOND);
        due("as BEYOND", x.as(10, 0), BEYOND);
        due("as BEYOND", x.as(-1, 0), BEYOND);
        due("hold BEYOND", x.hold(10, 0), BEYOND);
        due("hold BEYOND", x.hold(-1, 0), BEYOND);
        due("hold BEYOND", x.hold(0, 7), BEYOND);
        due("hold BEYOND", x.hold(0, -2), BEYOND);
        due("hold", x.hold(9, 6), 1);
        x.change(6, 0, 5);
        due("as what it has become", x.as(9, 4), 6);
    }

    private static void promises45And46() {
        HouseInRoom x = new HouseInRoom();
        x.one(0);
        due("sheet", x.sheet(0, 8, 40), 40);
        due("sheet", x.sheet(3, 32, 0), 0);
        due("sheet BEYOND", x.sheet(4, 8, 1), BEYOND);
        due("sheet BEYOND", x.sheet(-1, 8, 1), BEYOND);
        due("sheet BEYOND", x.sheet(0, 7, 1), BEYOND);
        due("sheet BEYOND", x.sheet(0, 64, -1), BEYOND);
        due("sheet BEYOND before SIZE", x.sheet(4, 0, -1), BEYOND);
        due("sheet SIZE", x.sheet(0, 8, -1), SIZE);
        due("sheet SIZE", x.sheet(0, 0, LEAST), SIZE);
        due("sheet BEYOND", x.sheet(0, 16, 41), BEYOND);
        due("sheet BEYOND", x.sheet(0, 0, 41), BEYOND);
        due("write", x.write(0, 39, 1), 1);
        due("write BEYOND", x.write(0, 40, 1), BEYOND);
        due("write BEYOND", x.write(0, -1, 1), BEYOND);
        due("write BEYOND", x.write(3, 0, 1), BEYOND);
        due("write BEYOND", x.write(4, 0, 1), BEYOND);
        due("write MISSING", x.write(1, -1, 1), MISSING);
        due("sheet MISSING", x.sheet(0, 0, 7), 0);
        due("write MISSING", x.write(0, 0, 1), MISSING);
        bits(8, 256 + 9, 9, 1);
        bits(8, 128 + 3, 3, 0);
        bits(16, 65536 + 9, 9, 1);
        bits(16, 256 + 9, 9, 0);
        bits(32, 65536 + 9, 9, 0);
        bits(32, 9, 9, 1);
        x.sheet(0, 8, 3);
        x.write(0, 0, 5);
        x.sheet(0, 8, 3);
        due("a new sheet is all 0", x.judge(0, 0), 2);
    }

    /** Whether what was written reads as a place, by the judge: such (1) or not (0). */
    private static void bits(int bits, int v, int place, int such) {
        HouseInRoom x = new HouseInRoom();
        x.one(place);
        x.sheet(2, bits, 1);
        x.write(2, 0, v);
        due("bits " + bits + " of " + v, x.judge(2, 0), such == 1 ? 0 : 1);
    }

    private static void promise47() {
        HouseInRoom x = new HouseInRoom();
        for (int i = 0; i < 8; i++) {
            x.thing(0, 7);
        }
        x.sheet(0, 8, 5);
        x.sheet(1, 8, 3);
        x.sheet(2, 16, 5);
        for (int i = 0; i < 5; i++) {
            x.write(0, i, i + 1);
        }
        due("copy within, up", x.copy(0, 0, 0, 1, 4), 4);
        x.load(0);
        int[] up = {1, 1, 2, 3, 4};
        for (int i = 0; i < 5; i++) {
            due("copied up", x.of(i, 1), up[i]);
        }
        due("copy within, down", x.copy(0, 2, 0, 0, 3), 3);
        due("copy to another", x.copy(0, 0, 1, 1, 2), 2);
        due("load", x.load(1), 3);
        due("copied", x.of(0, 1), 0);
        due("copied", x.of(1, 1), 2);
        due("copied", x.of(2, 1), 3);
        due("copy none", x.copy(0, 5, 1, 3, 0), 0);
        due("copy all", x.copy(0, 0, 0, 0, 5), 5);
        due("copy none", x.copy(0, 6, 1, 0, 0), BEYOND);
        due("copy BEYOND", x.copy(4, 0, 1, 0, 1), BEYOND);
        due("copy BEYOND", x.copy(0, 0, -1, 0, 1), BEYOND);
        due("copy BEYOND before MISSING", x.copy(3, 0, 4, 0, 1), BEYOND);
        due("copy MISSING", x.copy(3, 0, 0, 0, 1), MISSING);
        due("copy MISSING", x.copy(0, 0, 3, 0, 1), MISSING);
        due("copy KIND", x.copy(0, 0, 2, 0, 1), KIND);
        due("copy KIND before BEYOND", x.copy(0, -1, 2, 0, 1), KIND);
        due("copy BEYOND: from", x.copy(0, 3, 1, 0, 3), BEYOND);
        due("copy BEYOND: to", x.copy(0, 0, 1, 1, 3), BEYOND);
        due("copy BEYOND", x.copy(0, -1, 1, 0, 1), BEYOND);
        due("copy BEYOND", x.copy(0, 0, 1, -1, 1), BEYOND);
        due("copy BEYOND", x.copy(0, 0, 1, 0, -1), BEYOND);
        due("copy BEYOND", x.copy(0, MOST, 1, 0, MOST), BEYOND);
        due("copy BEYOND", x.copy(0, 1, 1, 1, MOST), BEYOND);
    }

    private static void promise48() {
        HouseInRoom x = new HouseInRoom();
        x.thing(0, 5);
        x.thing(0, 5);
        x.sheet(0, 16, 4);
        x.write(0, 0, 7);
        due("load: as many as there are things", x.load(0), 2);
        due("loaded", x.of(0, 1), 7);
        due("loaded", x.of(1, 1), 0);
        x.write(0, 0, 3);
        x.write(0, 1, 8);
        due("load: up to a wrong one", x.load(0), 1);
        due("loaded", x.of(0, 1), 3);
        due("not loaded", x.of(1, 1), 0);
        x.write(0, 0, -1);
        due("load: none", x.load(0), 0);
        due("not loaded", x.of(0, 1), 3);
        x.sheet(0, 16, 0);
        due("load: an empty one", x.load(0), 0);
        due("load MISSING", x.load(1), MISSING);
        due("load BEYOND", x.load(4), BEYOND);
        due("load BEYOND", x.load(-1), BEYOND);
        due("load is no move", x.now(0), 0);
    }

    private static void promise49() {
        HouseInRoom x = new HouseInRoom();
        x.one(2);
        x.sheet(0, 8, 6);
        int[] way = {2, 3, 8, 9, 8, 3};
        for (int i = 0; i < 6; i++) {
            x.write(0, i, way[i]);
        }
        due("judge", x.judge(0, 0), 0);
        int[] wrongs = {3, 5, 16, 8, 0, 99};
        for (int i = 0; i < 6; i++) {
            x.write(0, i, wrongs[i]);
            due("judge: wrong at " + i, x.judge(0, 0), 1 + i);
            x.write(0, i, way[i]);
        }
        x.write(0, 1, -1);
        x.write(0, 4, 39);
        due("judge: the first", x.judge(0, 0), 2);
        x.write(0, 1, 2);
        due("judge: to stay is no step", x.judge(0, 0), 2);
        x.sheet(0, 8, 0);
        due("judge: an empty one", x.judge(0, 0), 0);
        due("judge BEYOND", x.judge(4, 0), BEYOND);
        due("judge MISSING", x.judge(1, 0), MISSING);
        due("judge MISSING before BEYOND", x.judge(1, 1), MISSING);
        due("judge BEYOND", x.judge(0, 1), BEYOND);
        due("judge BEYOND", x.judge(0, -1), BEYOND);
        due("nothing changes", x.tell(0, 0), 2);
    }

    private static void promises50To52() {
        HouseInRoom x = new HouseInRoom();
        due("undo NONE", x.undo(), NONE);
        x.one(3);
        x.thing(2, 6);
        x.reach(0, 0, 3);
        for (int room = 0; room < 6; room++) {
            x.reach(0, 0, room);
        }
        x.days(3);
        x.hold(4, 0);
        x.person(0, 0, 3);
        x.change(0, 1, 3);
        int moves = x.now(0);
        int met = x.now(5);
        int books = x.now(6);
        int z = x.count(6);
        due("image", x.image(), 1);
        x.door(0, 7, 1);
        x.rule(0, 1);
        x.rule(1, 1);
        x.rule(2, 1);
        x.thing(0, 0);
        x.one(0);
        x.change(0, 0, 1);
        x.change(0, 1, 1);
        x.change(0, 2, 1);
        x.person(0, 0, 1);
        x.person(0, 1, 59);
        x.rule(0, 1);
        due("reach, not to be kept", x.reach(0, 0, 0), 1);
        x.days(60);
        x.hold(4, -1);
        x.seed(99);
        x.feed('k', 1);
        x.sheet(1, 8, 1);
        x.write(1, 0, 5);
        x.as(0, 9);
        due("undo", x.undo(), 3);
        due("undo: door", x.door(0, 7, 0), 0);
        int[] now = {moves, 3, 3, 0, 0, met, books};
        for (int what = 0; what < 7; what++) {
            due("undo: now " + what, x.now(what), now[what]);
        }
        due("undo: things", x.count(1), 1);
        due("undo: people", x.count(2), 1);
        int[] book = {0, 0, 6, 3, 1};
        for (int what = 0; what < 5; what++) {
            due("undo: book", x.book(books - 1, what), book[what]);
        }
        due("undo: book NONE", x.book(books, 0), NONE);
        due("undo: kind", x.of(0, 0), 2);
        due("undo: room", x.of(0, 1), 3);
        due("undo: bulk", x.of(0, 2), 8);
        due("undo: place", x.tell(0, 0), 3);
        due("undo: strong", x.tell(0, 1), 10);
        due("undo: spots", x.as(4, 1), 0);
        due("undo: z", x.count(6), z);
        due("undo: not the tape", x.count(5), 1);
        due("undo: not the sheets", x.load(1), 1);
        due("undo: not the sheets", x.of(0, 1), 5);
        due("undo: not status()", x.status(-1), 3);
        due("undo again", x.undo(), 3);
        due("undo again", x.of(0, 1), 3);
        x.change(0, 1, 7);
        x.image();
        x.change(0, 1, 6);
        x.undo();
        due("the latest image", x.of(0, 1), 7);
        due("tear", x.tear(), 1);
        due("tear", x.tear(), 0);
        due("undo NONE", x.undo(), NONE);
        due("nothing kept, nothing changed", x.of(0, 1), 7);
    }

    private static void promises53And54() {
        HouseInRoom x = new HouseInRoom();
        x.one(3);
        x.one(3);
        x.thing(0, 0);
        x.thing(0, 0);
        x.thing(0, 0);
        x.reach(0, 0, 3);
        x.lift(0, 1, 1);
        x.days(2);
        x.seed(42);
        x.feed(0, 3);
        x.hold(0, 0);
        x.hold(1, 0);
        int[] count = {2, 3, 2, x.now(0), x.now(5), 3, 42, 2};
        for (int what = 0; what < 8; what++) {
            due("count " + what, x.count(what), count[what]);
        }
        due("count BEYOND", x.count(8), BEYOND);
        due("count BEYOND", x.count(-1), BEYOND);
        HouseInRoom y = new HouseInRoom();
        due("status BEYOND", y.status(7), BEYOND);
        due("status BEYOND counts from then on", y.status(0), 1);
        due("status BEYOND", y.status(-2), BEYOND);
        due("status", y.status(0), 2);
        for (int i = 0; i < 5; i++) {
            y.one(0);
        }
        y.thing(0, 0);
        y.hold(0, 0);
        y.as(0, 1);
        y.undo();
        y.in(0);
        y.load(0);
        y.copies(9, 62);
        y.copies(9, 62);
        int[] status = {2, 1, 1, 1, 1, 1, 2};
        for (int which = 0; which < 7; which++) {
            due("status " + which, y.status(which), status[which]);
        }
        due("status of all", y.status(-1), 9);
    }
}
