/** The edges of promises 1 to 11, sentence by sentence; worked out by hand. */
public final class SoundEdgesTest {
    private static final Edges EDGES = new Edges("SoundEdgesTest");
    private static final String[] ONE = {"sound(0, 0, 20, 2) = 0"};

    public static void main(String[] args) {
        aNewObject();
        apart();
        sound();
        of();
        set();
        pass();
        lose();
        find();
        row();
        feed();
        street();
        told();
        EDGES.end();
    }

    private static void edge(String sentence, String... lines) {
        EDGES.edge(sentence, lines);
    }

    /** On an object with something of everything, and on one that is full: nothing is to change. */
    private static void refused(String sentence, String... lines) {
        EDGES.edgeOn(Rich.LINES, sentence, lines);
    }

    private static void refusedIfFull(String sentence, String... lines) {
        EDGES.edgeOn(Rich.FULL, sentence, lines);
    }

    private static void aNewObject() {
        edge("Promise 1: no SOUNDS, no STREET", "count(0) = 0", "count(1) = 0", "of(0, 0) = -1001", "told(1) = 6", "told(2) = 10",
            "told(3) = 1");
        edge("Promise 1: nothing else, either", "count(2) = 0", "count(3) = 0", "count(4) = 0", "count(5) = 0", "count(6) = 0",
            "told(0) = 0", "told(4) = 0", "told(5) = 31", "trace(0) = -1", "undo() = -3", "item(0, 0, 0) = -11",
            "item(5, 0, 0) = -11", "read(0, 0) = NO");
        edge("Promise 1: what is asked without SOUNDS", "set(0, 0) ~ -1", "pass(0, 1) ~ -1", "lose(0) ~ -1", "find(0, 0) ~ -1",
            "row(0, 0, 0) ~ -1", "on(0, 0) ~ 0", "on(60, 10) ~ 0", "on(0, 20) ~ -1", "when(0, 0) ~ 0", "when(1, 0) ~ -1",
            "home(0) ~ -1", "shared(0) ~ 0", "shared(1) ~ 0", "shared(10) ~ -1", "best(0) ~ -5", "best(1) ~ -5", "fewest(-1) ~ 0",
            "fewest(0) ~ -5", "fewest(1) ~ -5", "fewest(2) ~ -5", "louds(0, 0) ~ -1", "can(0, 0) ~ -1", "where(0) ~ -1",
            "odds(0, 0) ~ NO", "odds(0, 1) ~ NO", "mean(0, 0) ~ 0", "mean(0, 1) ~ 1", "mean(60, 0) ~ 0", "mean(60, 1) ~ 1",
            "plan(1, 0) ~ -1", "plan(2, 0) ~ -1", "plan(3, 0) ~ -1", "ends(0) ~ 0", "ends(1) ~ 5", "book(0, 0) ~ -1", "looked() ~ -5",
            "act(0, 0, 0) ~ 0", "taken(0, 0) ~ -11", "judge(0, 0) ~ -5", "shift(0, 0, 1, 0, 0) ~ -11");
    }

    /** What one object has been told is nothing to another one. */
    private static void apart() {
        Due due = new Due("SoundEdgesTest");
        due.part("Promise 1: of several objects");
        SqueakShop one = new SqueakShop();
        SqueakShop other = new SqueakShop();
        one.sound(6, 9, 99, 3);
        one.row(0, 1, 9);
        Due.street(one, "wall 1;loud 9 s=0");
        one.feed('w');
        one.years(9);
        one.see(0, 0, 0);
        one.plan(0, 0);
        one.book(0, 0);
        one.tape(0, 0, 9);
        one.act(0, 2, 0);
        one.image();
        String unlike = Sight.of(other).unlike(Sight.of(new SqueakShop()));
        due.holds("the other one is changed: " + unlike, unlike == null);
        due.is("of(0, 2) of the one", one.of(0, 2), 95);
        if (due.wrong() > 0) {
            due.end();
        }
    }

    private static void sound() {
        edge("Promise 2: a SOUND: its number", "sound(0, 0, 0, 0) = 0", "sound(6, 9, 99, 4) = 1", "of(0, 0) = 0", "of(0, 1) = 0",
            "of(0, 2) = 0", "of(0, 3) = 0", "of(1, 0) = 6", "of(1, 1) = 9", "of(1, 2) = 99", "of(1, 3) = 4", "count(0) = 2");
        refused("Promise 2: NONE: kind", "sound(-1, 0, 0, 0) ~ -1", "sound(7, 0, 0, 0) ~ -1", "sound(MIN, 0, 0, 0) ~ -1",
            "sound(MAX, 0, 0, 0) ~ -1", "sound(6, 0, 0, 0) = 5");
        refused("Promise 2: NONE: house", "sound(0, 0, 0, -1) ~ -1", "sound(0, 0, 0, 5) ~ -1", "sound(0, 0, 0, MIN) ~ -1",
            "sound(0, 0, 0, MAX) ~ -1", "sound(0, 0, 0, 4) = 5");
        refused("Promise 2: BAD: v", "sound(0, -1, 0, 0) ~ -2", "sound(0, 10, 0, 0) ~ -2", "sound(0, MIN, 0, 0) ~ -2",
            "sound(0, MAX, 0, 0) ~ -2", "sound(0, 9, 0, 0) = 5");
        refused("Promise 2: BAD: loud", "sound(0, 0, -1, 0) ~ -2", "sound(0, 0, 100, 0) ~ -2", "sound(0, 0, MIN, 0) ~ -2",
            "sound(0, 0, MAX, 0) ~ -2", "sound(0, 0, 99, 0) = 5");
        refusedIfFull("Promise 2: FULL: 6", "sound(0, 0, 0, 0) ~ -4", "sound(6, 9, 99, 4) ~ -4");
        edge("Promise 2: FULL, also if some are LOST", "6 * sound(0, 0, 9, 0) = 5", "lose(0) = 0", "lose(5) = 0", "sound(0, 0, 9, 0) = -4");
        refusedIfFull("Promise 2: NONE, BAD, FULL: the first that its words name", "sound(7, 10, 0, 0) ~ -1", "sound(0, 0, 100, 5) ~ -1",
            "sound(-1, 0, 0, 0) ~ -1", "sound(0, 0, 0, 5) ~ -1", "sound(0, -1, 0, 0) ~ -2", "sound(0, 0, 100, 0) ~ -2");
    }

    private static void of() {
        String[] told = {"sound(6, 7, 45, 3) = 0", "street(loud 5 h=0;loud 6 h=4;wall 10) = 0", "row(0, 0, 9) = 0"};
        EDGES.edgeOn(told, "Promise 3: of a SOUND what 0 KIND, 1 v, 2 LOUD, 3 its HOUSE, 4 WEARS, 10 and h VOICE, 20 and h HEARD",
            "of(0, 0) ~ 6", "of(0, 1) ~ 7", "of(0, 2) ~ 45", "of(0, 3) ~ 3", "of(0, 4) ~ 0", "of(0, 10) ~ 50", "of(0, 11) ~ 45",
            "of(0, 14) ~ 51", "of(0, 20) ~ 30", "of(0, 23) ~ 54", "of(0, 24) ~ 40");
        EDGES.edgeOn(told, "Promise 3: -1001: NONE: no such what", "of(0, -1) ~ -1001", "of(0, 5) ~ -1001", "of(0, 9) ~ -1001",
            "of(0, 15) ~ -1001", "of(0, 19) ~ -1001", "of(0, 25) ~ -1001", "of(0, MIN) ~ -1001", "of(0, MAX) ~ -1001", "of(0, 100) ~ -1001",
            "of(0, -10) ~ -1001", "of(0, 30) ~ -1001");
        EDGES.edgeOn(told, "Promise 3: -1001: NONE: no such SOUND", "of(-1, 0) ~ -1001", "of(1, 0) ~ -1001", "of(6, 0) ~ -1001",
            "of(MIN, 0) ~ -1001", "of(MAX, 0) ~ -1001", "of(1, 10) ~ -1001", "of(1, 20) ~ -1001", "of(-1, 24) ~ -1001", "of(1, 3) ~ -1001");
        EDGES.edgeOn(told, "Promise 3: -5: LOST; VOICE (LOST: 0)", "lose(0) = 3", "of(0, 3) ~ -5", "of(0, 10) ~ 0", "of(0, 13) ~ 0",
            "of(0, 14) ~ 0", "of(0, 20) ~ 0", "of(0, 23) ~ 0", "of(0, 0) ~ 6", "of(0, 1) ~ 7", "of(0, 2) ~ 45", "of(0, 4) ~ 0",
            "of(0, 15) ~ -1001", "of(0, 5) ~ -1001");
        edge("Promise 3: of each SOUND its own", "sound(0, 0, 20, 0) = 0", "sound(1, 3, 30, 4) = 1", "sound(6, 0, 40, 2) = 2", "street(wear 9) = 0",
            "years(1) = 1", "of(0, 4) ~ 9", "of(1, 4) ~ 4", "of(2, 4) ~ 9", "lose(1) = 4", "of(1, 3) ~ -5", "of(1, 12) ~ 0", "of(1, 22) ~ 0",
            "of(2, 12) ~ 40", "of(0, 12) ~ 11", "lose(0) = 0", "of(2, 12) ~ 40", "of(2, 22) ~ 40", "of(0, 12) ~ 0", "of(2, 3) ~ 2",
            "years(1) = 2", "of(0, 4) ~ 9", "of(1, 4) ~ 4", "of(2, 4) ~ 0");
        refusedIfFull("Promise 3: the last SOUND", "of(5, 0) ~ 5", "of(5, 1) ~ 9", "of(5, 24) ~ 47", "of(6, 0) ~ -1001", "of(3, 3) ~ -5");
    }

    private static void set() {
        EDGES.edgeOn(ONE, "Promise 4: LOUD of a SOUND becomes n (0 .. 99): what it was", "set(0, 0) = 20", "of(0, 2) = 0", "set(0, 99) = 0",
            "of(0, 2) = 99", "set(0, 99) ~ 99", "set(0, 1) = 99", "set(0, 98) = 1", "of(0, 2) = 98");
        refused("Promise 4: NONE", "set(-1, 5) ~ -1", "set(5, 5) ~ -1", "set(6, 5) ~ -1", "set(MIN, 5) ~ -1", "set(MAX, 5) ~ -1");
        refused("Promise 4: BAD", "set(0, -1) ~ -2", "set(0, 100) ~ -2", "set(0, MIN) ~ -2", "set(0, MAX) ~ -2");
        refused("Promise 4: NONE, BAD: the first that its words name", "set(5, 100) ~ -1", "set(-1, -1) ~ -1");
        refused("Promise 4: of a LOST one, too", "set(3, 5) = 16", "of(3, 2) = 5", "of(3, 3) = -5");
        refusedIfFull("Promise 4: of the last one", "set(5, 7) = 94", "of(5, 2) = 7", "of(4, 2) = 95");
    }

    private static void pass() {
        EDGES.edgeOn(ONE, "Promise 5: a SOUND is PASSED ON to a HOUSE: NOISE there then", "sound(4, 0, 5, 3) = 1", "sound(0, 0, 9, 4) = 2",
            "pass(0, 3) = 28", "of(0, 3) = 3", "pass(0, 4) = 29", "of(0, 3) = 4", "pass(0, 3) = 28", "pass(0, 2) = 20", "pass(0, 1) = 20",
            "pass(0, 0) = 20", "of(0, 3) = 0");
        refused("Promise 5: NONE: no such SOUND", "pass(-1, 1) ~ -1", "pass(5, 1) ~ -1", "pass(MIN, 1) ~ -1", "pass(MAX, 1) ~ -1");
        refused("Promise 5: NONE: no such HOUSE", "pass(4, -1) ~ -1", "pass(4, 5) ~ -1", "pass(4, MIN) ~ -1", "pass(4, MAX) ~ -1");
        EDGES.edgeOn(ONE, "Promise 5: NONE: there is no HOUSE behind 4, and none ahead of 0", "pass(0, 3) = 20", "pass(0, 4) = 20",
            "pass(0, 5) ~ -1", "pass(0, 3) = 20", "pass(0, 2) = 20", "pass(0, 1) = 20", "pass(0, 0) = 20", "pass(0, -1) ~ -1");
        refused("Promise 5: STATE: it is LOST", "pass(3, 3) ~ -3", "pass(3, 4) ~ -3", "pass(3, 0) ~ -3");
        EDGES.edgeOn(ONE, "Promise 5: STATE: it is not 1 FAR", "pass(0, 2) ~ -3", "pass(0, 0) ~ -3", "pass(0, 4) ~ -3", "pass(0, 1) = 20",
            "pass(0, 1) ~ -3", "pass(0, 3) ~ -3", "pass(0, 4) ~ -3", "pass(0, 0) = 20", "pass(0, 2) ~ -3", "pass(0, 4) ~ -3");
        refused("Promise 5: NONE, STATE: the first that its words name", "pass(3, 5) ~ -1", "pass(5, 5) ~ -1", "pass(3, -1) ~ -1");
    }

    private static void lose() {
        EDGES.edgeOn(ONE, "Promise 6: a SOUND is LOST: where it was", "sound(0, 0, 9, 0) = 1", "sound(0, 0, 9, 4) = 2", "lose(1) = 0",
            "of(1, 3) = -5", "lose(2) = 4", "of(2, 3) = -5", "lose(0) = 2", "of(0, 3) = -5", "told(4) = 0", "of(0, 2) = 20");
        refused("Promise 6: NONE", "lose(-1) ~ -1", "lose(5) ~ -1", "lose(6) ~ -1", "lose(MIN) ~ -1", "lose(MAX) ~ -1");
        refused("Promise 6: STATE: it is LOST", "lose(3) ~ -3", "lose(4) = 0", "lose(4) ~ -3");
        refusedIfFull("Promise 6: the last one", "lose(5) = 4", "lose(5) ~ -3");
    }

    private static void find() {
        EDGES.edgeOn(ONE, "Promise 7: a LOST SOUND is found in a HOUSE: NOISE there then", "sound(4, 0, 5, 4) = 1", "lose(0) = 2",
            "find(0, 4) = 25", "of(0, 3) = 4", "lose(0) = 4", "find(0, 0) = 20", "of(0, 3) = 0", "lose(0) = 0", "find(0, 0) = 20");
        refused("Promise 7: NONE: no such SOUND", "find(-1, 0) ~ -1", "find(5, 0) ~ -1", "find(MIN, 0) ~ -1", "find(MAX, 0) ~ -1");
        refused("Promise 7: NONE: no such HOUSE", "find(3, -1) ~ -1", "find(3, 5) ~ -1", "find(3, MIN) ~ -1", "find(3, MAX) ~ -1");
        refused("Promise 7: STATE: it is not LOST", "find(0, 1) ~ -3", "find(0, 0) ~ -3", "find(4, 4) ~ -3", "lose(4) = 0", "find(4, 4) = 78",
            "find(4, 4) ~ -3");
        refused("Promise 7: NONE, STATE: the first that its words name", "find(0, 5) ~ -1", "find(0, -1) ~ -1", "find(5, 5) ~ -1");
    }

    private static void row() {
        String[] three = {"sound(6, 0, 0, 0) = 0", "sound(3, 0, 0, 0) = 1", "sound(6, 0, 0, 4) = 2"};
        EDGES.edgeOn(three, "Promise 8: the ROW of a TOLD one becomes n (0 .. 9) for YEARS modulo 4 being part: what it was",
            "row(0, 0, 1) = 0", "row(0, 1, 9) = 0", "row(0, 2, 3) = 0", "row(0, 3, 4) = 0", "row(2, 0, 7) = 0", "told(10) = 1",
            "told(14) = 7", "years(1) = 1", "told(10) = 9", "told(14) = 0", "years(1) = 2", "told(10) = 3", "years(1) = 3",
            "told(10) = 4", "years(1) = 4", "told(10) = 1", "told(14) = 7", "row(0, 0, 0) = 1", "row(0, 0, 9) = 0", "row(0, 3, 5) = 4",
            "told(10) = 9", "years(3) = 7", "told(10) = 5");
        EDGES.edgeOn(three, "Promise 8: NONE: sound", "row(-1, 0, 0) ~ -1", "row(3, 0, 0) ~ -1", "row(MIN, 0, 0) ~ -1", "row(MAX, 0, 0) ~ -1");
        EDGES.edgeOn(three, "Promise 8: NONE: part", "row(0, -1, 0) ~ -1", "row(0, 4, 0) ~ -1", "row(0, MIN, 0) ~ -1", "row(0, MAX, 0) ~ -1",
            "row(2, -1, 5) ~ -1", "row(0, 3, 5) = 0", "row(0, 0, 5) = 0");
        EDGES.edgeOn(three, "Promise 8: BAD", "row(0, 0, -1) ~ -2", "row(0, 0, 10) ~ -2", "row(0, 0, MIN) ~ -2", "row(0, 0, MAX) ~ -2",
            "row(0, 0, 9) = 0", "row(0, 0, 0) = 9");
        edge("Promise 8: STATE: another KIND", "sound(0, 0, 0, 0) = 0", "sound(1, 0, 0, 0) = 1", "sound(2, 0, 0, 0) = 2", "sound(3, 0, 0, 0) = 3",
            "sound(4, 0, 0, 0) = 4", "sound(5, 0, 0, 0) = 5", "row(0, 0, 0) ~ -3", "row(1, 0, 0) ~ -3", "row(2, 0, 0) ~ -3", "row(3, 3, 9) ~ -3",
            "row(4, 0, 0) ~ -3", "row(5, 0, 0) ~ -3");
        EDGES.edgeOn(three, "Promise 8: NONE, BAD, STATE: the first that its words name", "row(1, 4, 10) ~ -1", "row(3, 0, 10) ~ -1",
            "row(1, -1, 0) ~ -1", "row(1, 0, 10) ~ -2", "row(1, 0, -1) ~ -2", "row(0, 4, 10) ~ -1");
        EDGES.edgeOn(three, "Promise 8: of a LOST one, too", "lose(2) = 4", "row(2, 0, 6) = 0", "told(14) = 0", "find(2, 3) = 6");
    }

    private static void feed() {
        edge("Promise 9: a sign (0 .. 127) comes behind THE TEXT's: how many it has", "feed(0) = 1", "feed(127) = 2", "feed(-1) ~ -2",
            "feed(128) ~ -2", "feed(MIN) ~ -2", "feed(MAX) ~ -2", "feed(255) ~ -2", "feed(256) ~ -2", "feed(-128) ~ -2", "feed(119) = 3",
            "count(5) = 3", "street() = -10");
        edge("Promise 9: FULL", "99 * feed(119) = 99", "feed(119) = 100", "feed(119) ~ -4", "feed(0) ~ -4", "count(5) = 100", "street() = -11",
            "feed(119) = 1");
        edge("Promise 9: BAD, FULL: the first that its words name", "100 * feed(48) = 100", "feed(128) ~ -2", "feed(-1) ~ -2");
        edge("Promise 9: behind THE TEXT's", "fed(wal) = 3", "fed(l 1) = 6", "feed(50) = 7", "street() = 0", "told(1) = 12");
    }

    private static void street() {
        edge("Promise 10: THE TEXT, which is empty then, is a STREET, and holds: its number", "street(wall 1) = 0", "count(5) = 0", "told(1) = 1",
            "street(wall 2) = 1", "count(5) = 0", "told(1) = 2", "street(wall 3) = 2", "street(wall 4) = 3", "street(wall 5) = 4",
            "street(wall 6;calm 6) = 5", "count(5) = 0", "told(1) = 6", "told(2) = 6", "count(1) = 6");
        String six = "Promise 10: FULL: there are 6 (THE TEXT stays)";
        edge(six, "5 * street(wall 3) = 4", "street(wall 4;loud 5 s=0) = 5", "fed(wall 9) = 6", "street() ~ -4", "count(5) = 6", "told(1) = 4",
            "fed(9) = 7", "street() ~ -4", "count(5) = 7", "sound(0, 0, 20, 0) = 0", "of(0, 10) = 25", "count(1) = 6");
        edge(six, "6 * street(wall 3) = 5", "street() ~ -4", "count(5) = 0");
        edge("Promise 10: FULL, -10 less the FAULT: the first that its words name", "6 * street(wall 3) = 5", "street(x) = -4", "count(5) = 1",
            "street() ~ -4");
        String fault = "Promise 10: -10 less the FAULT (the one that held holds)";
        edge(fault, "sound(0, 0, 20, 0) = 0", "street(wall 3;calm 4;wear 5;loud 6 s=0) = 0",
            "street(wall 8;calm 9;wear 1;loud 7 s=0;x) = -42", "told(1) = 3", "told(2) = 4", "told(3) = 5", "of(0, 10) = 26", "count(1) = 1",
            "count(5) = 0", "street() = -10", "told(1) = 3", "of(0, 10) = 26", "street(wear 2) = 1", "told(1) = 6", "of(0, 10) = 20");
        edge(fault, "street(wall 8;calm 9;wear 2;) = -31", "told(1) = 6", "told(2) = 10", "told(3) = 1", "count(1) = 0", "count(5) = 0",
            "street(wall 2) = 0");
        edge("Promise 10: the FAULT at the first byte and at the last", "street(0wall 1) = -10", "street(wall 1x) = -16", "street() = -10",
            "99 * feed(120) = 99", "street() = -10");
        edge("Promise 10: nothing is left of a STREET with a FAULT", "sound(0, 0, 20, 0) = 0",
            "10 * street(loud 1 s=0|s=0|s=0|s=0|s=0|s=0;x) = -41", "street(loud 1 s=1;soft 9 s=1) = 0",
            "of(0, 10) = 20", "street(loud 1 s=0) = 1", "of(0, 10) = 21");
        edge("Promise 10: THE TEXT is empty then: what stood there is not read again", "street(wall 7;loud 12 s=34) = 0", "street(wall 8;x) = -17",
            "street(w) = -11", "street(wa) = -12", "street(wall) = -14", "street(wall ) = -15", "street(wall 8) = 1", "told(1) = 8",
            "street(wall 9;) = -17", "street(wall 9;loud) = -21", "street(wall 9;loud 1 s=) = -26", "street() = -10");
        edge("Promise 10: THE TEXT is empty then: nor behind a ;", "street(wall 7;calm 12;loud 34 s=56&v=78) = 0", "street(wall 8;cal) = -20",
            "street(wall 8;c) = -18", "street(wall 8;calm) = -21", "street(wall 8;calm ) = -22", "street(wall 8;calm 12;loud) = -29",
            "street(wall 8;calm 12;loud 34 s) = -34", "street(wall 8;calm 12;loud 34 s=) = -35", "street(wall 8;calm 12;loud 34 s=5) = 1");
        edge("Promise 10: a 6th one may still come behind FAULTS", "5 * street(wall 3) = 4", "10 * street(x) = -10", "count(1) = 5",
            "street(wall 2) = 5", "street(wall 2) = -4");
    }

    private static void told() {
        refused("Promise 11: NONE", "told(-1) ~ -1", "told(6) ~ -1", "told(9) ~ -1", "told(15) ~ -1", "told(20) ~ -1", "told(MIN) ~ -1",
            "told(MAX) ~ -1", "told(-10) ~ -1");
        edge("Promise 11: what 0 YEAR, 1 WALL, 2 CALM, 3 WEAR, 4 the greatest NOISE, 5 which HOUSES are STILL (bits), 10 and h NOISE",
            "sound(0, 0, 22, 0) = 0", "sound(4, 0, 12, 4) = 1", "street(wall 4;calm 11;wear 3) = 0", "told(0) = 0", "told(1) = 4", "told(2) = 11",
            "told(3) = 3", "told(4) = 22", "told(5) = 8", "told(10) = 22", "told(11) = 18", "told(12) = 14", "told(13) = 10", "told(14) = 18",
            "set(0, 0) = 22", "told(4) = 12", "told(5) = 15", "set(1, 11) = 12", "told(5) = 31", "set(0, 99) = 0", "told(5) = 0", "told(4) = 99",
            "years(60) = 60", "told(0) = 60");
        EDGES.edgeOn(Rich.LATE, "Promise 11: YEAR 9999", "told(0) ~ 9999", "told(4) ~ 42");
        refused("Promise 11: all of it", "told(0) ~ 4", "told(1) ~ 5", "told(2) ~ 20", "told(3) ~ 2", "told(4) ~ 100", "told(5) ~ 0",
            "told(10) ~ 89", "told(11) ~ 100", "told(12) ~ 93", "told(13) ~ 81", "told(14) ~ 70");
    }
}
