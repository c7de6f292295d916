/** The edges of ACTS, THE IMAGE, the third part of "Terms" and promises 29 to 39, sentence by sentence; worked out by hand. */
public final class TapeEdgesTest {
    private static final Edges EDGES = new Edges("TapeEdgesTest");
    private static final String[] SORTS = {"bytes", "shorts", "ints", "longs", "booleans"};

    public static void main(String[] args) {
        judge();
        image();
        undo();
        stays();
        acts();
        wrapping();
        noAct();
        trace();
        taken();
        count();
        tape();
        item();
        read();
        shift();
        shiftRefused();
        sights();
        EDGES.end();
    }

    private static void edge(String sentence, String... lines) {
        EDGES.edge(sentence, lines);
    }

    private static void rich(String sentence, String... lines) {
        EDGES.edgeOn(Rich.LINES, sentence, lines);
    }

    private static void judge() {
        String first = "3: JUDGED: the first that is otherwise; -5: none";
        String[] three = {"sound(0, 0, 0, 0) = 0", "sound(0, 0, 99, 4) = 1", "sound(0, 0, 40, 2) = 2", "tape(0, 0, 4) = 1", "item(0, 2, 99) = 1",
            "item(0, 3, 40) = 1"};
        EDGES.edgeOn(three, first, "judge(0, 1) ~ -5", "item(0, 3, 41) = 1", "judge(0, 1) ~ 2", "item(0, 2, 98) = 1", "judge(0, 1) ~ 1",
            "item(0, 1, 1) = 1", "judge(0, 1) ~ 0", "item(0, 1, 256) = 1", "judge(0, 1) ~ 1", "item(0, 2, 355) = 1", "judge(0, 1) ~ 2",
            "set(2, 41) = 40", "judge(0, 1) ~ -5", "judge(0, 0) ~ 1");
        EDGES.edgeOn(three, "3: JUDGED: a LOST one's LOUD, too", "lose(2) = 2", "judge(0, 1) ~ -5", "item(0, 3, 0) = 1", "judge(0, 1) ~ 2");
        EDGES.edgeOn(three, "3: JUDGED: 100 and how many were looked at, if the row ends ahead of that", "item(0, 3, 0) = 1", "judge(0, 3) ~ 101",
            "judge(0, 4) ~ 100", "judge(0, 5) ~ 100", "judge(0, MAX) ~ 100", "tape(0, 0, 3) = 1", "judge(0, 3) ~ 100", "judge(0, 2) ~ 101",
            "item(0, 2, 99) = 1", "judge(0, 1) ~ 102", "judge(0, 2) ~ 0", "tape(0, 0, 0) = 1", "judge(0, 0) ~ 100");
        edge("3: JUDGED: 100 and how many were looked at: 5 of 6", "6 * sound(0, 0, 0, 0) = 5", "tape(0, 0, 60) = 1", "judge(0, 0) ~ -5",
            "judge(0, 54) ~ -5", "judge(0, 55) ~ 105", "judge(0, 59) ~ 101", "judge(0, 60) ~ 100", "judge(0, 61) ~ 100", "item(0, 59, 1) = 1",
            "judge(0, 54) ~ 5", "judge(0, 53) ~ -5");
        EDGES.edgeOn(three, "3: JUDGED: (or the place is below 0, or the TAPE holds nothing)", "judge(0, -1) ~ 100", "judge(0, MIN) ~ 100",
            "judge(5, 0) ~ 100", "judge(5, 1) ~ 100", "judge(5, -1) ~ 100", "tape(0, -1, 0) = 1", "judge(0, 1) ~ 100");
        edge("3: JUDGED: there is none to look at", "tape(0, 0, 4) = 1", "judge(0, 0) ~ -5", "judge(0, 3) ~ -5", "item(0, 0, 7) = 1",
            "judge(0, 0) ~ -5");
        EDGES.edgeOn(three, "Promise 29: NONE: tape", "judge(-1, 0) ~ -1", "judge(6, 0) ~ -1", "judge(MIN, 0) ~ -1", "judge(MAX, 0) ~ -1",
            "judge(6, -1) ~ -1");
        for (int sort = 1; sort < 5; sort++) {
            EDGES.edgeOn(three, "Promise 29: CAST: it is no row of bytes: " + SORTS[sort], "tape(1, " + sort + ", 4) = 1", "judge(1, 0) ~ -12",
                "judge(1, 4) ~ -12", "judge(1, -1) ~ -12", "tape(1, " + sort + ", 0) = 1", "judge(1, 0) ~ -12", "tape(1, 0, 4) = 1",
                "judge(1, 0) ~ 1");
            edge("Promise 29: CAST, also if there is none to look at", "tape(1, " + sort + ", 4) = 1", "judge(1, 0) ~ -12");
        }
    }

    private static void image() {
        edge("Promise 30: THE IMAGE is taken: how many SOUNDS there are", "image() = 0", "undo() = 0", "sound(0, 0, 9, 0) = 0", "image() = 1",
            "image() ~ 1", "undo() ~ 1");
        edge("Promise 30: THE IMAGE is taken: the newest", "sound(0, 0, 9, 0) = 0", "image() = 1", "set(0, 8) = 9", "image() = 1", "set(0, 7) = 8",
            "undo() = 1", "of(0, 2) = 8", "undo() = 1", "of(0, 2) = 8");
        edge("Promise 30: six of them", "6 * sound(0, 0, 9, 0) = 5", "lose(3) = 0", "image() = 6", "find(3, 4) = 9", "undo() = 6",
            "of(3, 3) = -5", "sound(0, 0, 9, 0) = -4");
        EDGES.edgeOn(Rich.FULL, "Promise 31: STATE: there is none", "undo() ~ -3");
        edge("Promise 31: STATE: there is none", "undo() ~ -3", "image() = 0", "undo() ~ 0");
    }

    private static void undo() {
        String sentence = "Promise 31: all is as THE IMAGE: ";
        String[] taken = Edges.joined(Rich.LINES, "image() = 5");
        String[] mutations = {"set(0, 99) = 36", "pass(0, 2) = ?", "lose(0) = 1", "find(3, 0) = ?", "row(0, 0, 9) = 4", "row(0, 3, 0) = 9",
            "years(60) = 64", "see(4, 9, 9) = 3", "see(-1, 0, 0) = 0", "plan(1, 0) = 4", "plan(-1, 0) = 0", "book(0, 5) = 4", "book(-1, 0) = 0"};
        for (String mutation : mutations) {
            EDGES.isSeen(taken, "a sight", mutation);
            EDGES.allAsBefore(taken, sentence + mutation, mutation, "undo() = 5");
            EDGES.allAsBefore(taken, sentence + "twice: " + mutation, "undo() = 5", mutation, "undo() = 5", mutation, "undo() = 5");
        }
        EDGES.allAsBefore(taken, sentence + "the SOUNDS", "sound(6, 9, 99, 0) = 5", "row(5, 0, 9) = 0", "row(5, 1, 9) = 0", "undo() = 5");
        EDGES.allAsBefore(taken, sentence + "SEEN, refilled", "see(-1, 0, 0) = 0", "see(3, 3, 3) = 1", "see(4, 4, 4) = 2", "undo() = 5");
        EDGES.allAsBefore(taken, sentence + "the PLAN, refilled", "plan(-1, 0) = 0", "plan(1, 1) = 1", "plan(1, 2) = 2", "plan(1, 0) = 3",
            "undo() = 5");
        EDGES.allAsBefore(taken, sentence + "the BOOK, refilled", "book(-1, 0) = 0", "book(1, 1) = 1", "book(1, 2) = 2", "book(1, 0) = 3",
            "undo() = 5");
        String[] one = {"sound(0, 0, 20, 0) = 0", "sound(0, 0, 30, 4) = 1", "see(0, 16, 5) = 1", "plan(2, 0) = 1", "book(0, 0) = 1", "image() = 2"};
        for (String other : new String[] {"see(0, 16, 6) = 1", "see(0, 15, 5) = 1", "see(1, 16, 5) = 1"}) {
            EDGES.edgeOn(one, sentence + "SEEN, each number", "louds(0, 1) = 20", "see(-1, 0, 0) = 0", other, "undo() = 2", "louds(0, 1) = 20",
                "where(0) = 1");
        }
        for (String other : new String[] {"plan(3, 0) = 1", "plan(2, 1) = 1", "plan(0, 0) = 1"}) {
            EDGES.edgeOn(one, sentence + "the PLAN, each number", "ends(0) = 32", "plan(-1, 0) = 0", other, "undo() = 2", "ends(0) = 32",
                "lose(0) = 0", "ends(0) = 30");
        }
        for (String other : new String[] {"book(1, 0) = 1", "book(0, 4) = 1"}) {
            EDGES.edgeOn(one, sentence + "the BOOK, each number", "looked() = -5", "book(-1, 0) = 0", other, "undo() = 2", "looked() = -5",
                "lose(0) = 0", "looked() = 0");
        }
        edge(sentence + "SOUNDS with all that is theirs: the last one's ROW, too", "6 * sound(6, 0, 20, 4) = 5", "row(5, 0, 9) = 0",
            "row(5, 3, 4) = 0", "image() = 6", "row(5, 0, 1) = 9", "row(5, 3, 2) = 4", "undo() = 6", "told(14) = 129", "row(5, 3, 0) = 4",
            "row(5, 0, 0) = 9");
        edge(sentence + "a SOUND that comes then is a new one", "image() = 0", "sound(6, 0, 0, 0) = 0", "row(0, 0, 9) = 0", "row(0, 1, 9) = 0",
            "undo() = 0", "of(0, 0) = -1001", "sound(6, 0, 0, 0) = 0", "row(0, 0, 1) = 0", "row(0, 1, 1) = 0");
        edge(sentence + "which STREET holds", "street(wall 1;calm 1;wear 1) = 0", "image() = 0", "street(wall 2;calm 2;wear 2) = 1", "undo() = 0",
            "told(1) = 1", "told(2) = 1", "told(3) = 1", "street(wall 3) = 2", "undo() = 0", "told(1) = 1");
        edge(sentence + "no STREET holds", "image() = 0", "street(wall 2;calm 2;wear 2) = 0", "undo() = 0", "told(1) = 6", "told(2) = 10",
            "told(3) = 1");
        edge(sentence + "YEAR, back from 9999", "image() = 0", "166 * years(60) = 9960", "years(39) = 9999", "undo() = 0", "told(0) = 0",
            "years(60) = 60");
    }

    private static void stays() {
        String[] taken = Edges.joined(Rich.LINES, "image() = 5");
        for (String other : new String[] {"feed(50) = 7", "tape(0, 2, 9) = 1", "tape(2, -1, 0) = 1", "item(1, 1, 5) = 1",
            "shift(0, 1, 0, 0, 1) = 1", "act(4, 2, 9) = ?", "act(9, 9, 9) = 0"}) {
            EDGES.isSeen(taken, "a sight", other);
            EDGES.allAsBefore(Edges.joined(taken, other), "2: THE IMAGE has not: " + other, "undo() = 5");
        }
    }

    private static void act(int kind, int number, String... lines) {
        String[] before = number == 0 ? new String[] {} : new String[] {number + " * sound(0, 0, 0, 0) = " + (number - 1)};
        EDGES.edgeOn(Edges.joined(before, "sound(" + kind + ", 5, 0, 0) = " + number), "2: BODIES, of KIND " + kind, lines);
    }

    /** x is 10, i is 3, v is 5. */
    private static void acts() {
        act(0, 3, "act(3, 0, 10) = 13", "count(6) = 1", "trace(0) = 10", "trace(1) = -1");
        act(0, 3, "act(3, 1, 10) = 8", "count(6) = 2", "trace(0) = 11", "trace(1) = 10", "trace(2) = -1");
        act(0, 3, "act(3, 2, 10) = 16", "count(6) = 3", "trace(0) = 12", "trace(1) = 11", "trace(2) = 10", "trace(3) = -1");
        act(1, 3, "act(3, 0, 10) = 13", "count(6) = 1", "trace(0) = 10");
        act(1, 3, "act(3, 1, 10) = 14", "count(6) = 3", "trace(0) = 20", "trace(1) = 11", "trace(2) = 10");
        act(1, 3, "act(3, 2, 10) = 28", "count(6) = 4", "trace(0) = 12", "trace(1) = 20", "trace(2) = 11", "trace(3) = 10");
        act(2, 3, "act(3, 0, 10) = 33", "count(6) = 2", "trace(0) = 30", "trace(1) = 10");
        act(2, 3, "act(3, 1, 10) = 28", "count(6) = 3", "trace(0) = 11", "trace(1) = 30", "trace(2) = 10");
        act(2, 3, "act(3, 2, 10) = 56", "count(6) = 4", "trace(0) = 12", "trace(1) = 11", "trace(2) = 30", "trace(3) = 10");
        act(3, 3, "act(3, 0, 10) = 13", "act(3, 1, 10) = 8", "trace(0) = 11");
        act(3, 3, "act(3, 2, 10) = 15", "count(6) = 6", "trace(0) = 40", "trace(1) = 12", "trace(2) = 11", "trace(3) = 10", "trace(4) = 11",
            "trace(5) = 10", "trace(6) = -1");
        act(4, 3, "act(3, 0, 10) = -13", "count(6) = 2", "trace(0) = 50", "trace(1) = 10");
        act(4, 3, "act(3, 1, 10) = -21", "count(6) = 5", "trace(0) = 51", "trace(1) = 20", "trace(2) = 11", "trace(3) = 50", "trace(4) = 10");
        act(4, 3, "act(3, 2, 10) = -42", "count(6) = 6", "trace(0) = 12", "trace(1) = 51", "trace(2) = 20", "trace(3) = 11", "trace(4) = 50",
            "trace(5) = 10");
        act(5, 3, "act(3, 0, 10) = 33", "act(3, 1, 10) = 28", "count(6) = 3", "trace(0) = 11", "trace(1) = 30", "trace(2) = 10");
        act(5, 3, "act(3, 2, 10) = 38", "count(6) = 5", "trace(0) = 60", "trace(1) = 12", "trace(2) = 11", "trace(3) = 30", "trace(4) = 10");
        act(6, 3, "act(3, 0, 10) = 8", "count(6) = 2", "trace(0) = 71", "trace(1) = 10");
        act(6, 3, "act(3, 1, 10) = 8", "count(6) = 5", "trace(0) = 70", "trace(1) = 11", "trace(2) = 71", "trace(3) = 10", "trace(4) = 10",
            "trace(5) = -1");
        act(6, 3, "act(3, 2, 10) = 17", "count(6) = 12", "trace(0) = 40", "trace(1) = 12", "trace(2) = 70", "trace(3) = 11", "trace(4) = 71",
            "trace(5) = 10", "trace(6) = 10", "trace(7) = 70", "trace(8) = 11", "trace(9) = 71", "trace(10) = 10", "trace(11) = 10",
            "trace(12) = -1");
    }

    private static void wrapping() {
        String wrap = "2: ACTS of a SOUND with x (wrapping)";
        edge(wrap, "sound(0, 0, 0, 0) = 0", "sound(0, 1, 0, 0) = 1", "act(0, 0, MAX) = MAX", "act(0, 0, MIN) = MIN", "act(1, 0, MAX) = MIN",
            "act(1, 1, MIN) = MIN", "act(1, 1, MAX) = MAX", "act(0, 2, 1073741824) = MIN", "act(0, 2, MAX) = -2", "act(0, 2, MIN) = 0",
            "act(0, 2, 1073741823) = 2147483646");
        edge(wrap, "sound(0, 9, 0, 0) = 0", "act(0, 1, MIN) = 2147483639");
        edge(wrap, "sound(2, 0, 0, 0) = 0", "act(0, 0, MAX) = 2147483645", "act(0, 0, MIN) = MIN", "act(0, 0, 715827883) = -2147483647",
            "act(0, 0, 715827882) = 2147483646");
        edge(wrap, "sound(4, 0, 0, 0) = 0", "act(0, 0, MIN) = MIN", "act(0, 0, MAX) = -2147483647", "act(0, 1, MAX) = -2147483642");
        edge(wrap, "sound(0, 0, 0, 0) = 0", "sound(5, 0, 0, 0) = 1", "act(1, 2, MIN) = -4");
        edge(wrap, "sound(6, 9, 0, 0) = 0", "act(0, 0, MIN) = -2147483639", "act(0, 1, MIN) = -2147483646", "act(0, 1, MAX) = 2147483631");
    }

    private static void noAct() {
        String none = "Promise 32: 0, and no TRACE then: no such SOUND, act";
        for (String call : new String[] {"act(-1, 0, 7)", "act(5, 0, 7)", "act(6, 2, 7)", "act(MIN, 0, 7)", "act(MAX, 0, 7)", "act(0, -1, 7)",
            "act(0, 3, 7)", "act(0, MIN, 7)", "act(0, MAX, 7)", "act(5, 3, 7)"}) {
            rich(none, "trace(0) = 40", call + " = 0", "trace(0) = -1", "count(6) = 0", call + " ~ 0");
        }
        rich("Promise 32: of a LOST one, too", "act(3, 0, 7) = -10", "trace(0) = 50", "count(6) = 2");
        rich("Promise 32: 0 may be an answer with a TRACE", "act(0, 0, 5) = 0", "count(6) = 2", "trace(1) = 10");
    }

    private static void trace() {
        edge("Promise 33: THE TRACE's i-th body; NONE: none ran yet", "trace(0) ~ -1", "trace(-1) ~ -1", "trace(19) ~ -1");
        rich("Promise 33: NONE", "trace(11) ~ 10", "trace(12) ~ -1", "trace(13) ~ -1", "trace(19) ~ -1", "trace(20) ~ -1", "trace(21) ~ -1",
            "trace(-1) ~ -1", "trace(MIN) ~ -1", "trace(MAX) ~ -1");
        rich("2: THE TRACE: the bodies that ran in the latest act()", "act(4, 0, 1) = 5", "trace(0) = 10", "trace(1) = -1", "trace(11) = -1",
            "act(0, 0, 1) = 4", "trace(0) = 71", "trace(1) = 10", "trace(2) = -1", "count(6) = 2");
    }

    private static void taken() {
        rich("Promise 34: a SOUND taken for one of KIND k, or one under that: its KIND", "taken(0, 0) ~ 6", "taken(0, 3) ~ 6", "taken(0, 6) ~ 6",
            "taken(1, 5) ~ 5", "taken(1, 2) ~ 5", "taken(1, 0) ~ 5", "taken(3, 1) ~ 4", "taken(3, 4) ~ 4", "taken(3, 0) ~ 4");
        rich("Promise 34: BAD: k", "taken(0, -1) ~ -2", "taken(0, 7) ~ -2", "taken(0, MIN) ~ -2", "taken(0, MAX) ~ -2");
        rich("Promise 34: NOTHING: no such SOUND", "taken(-1, 0) ~ -11", "taken(5, 0) ~ -11", "taken(6, 6) ~ -11", "taken(MIN, 0) ~ -11",
            "taken(MAX, 0) ~ -11");
        rich("Promise 34: CAST", "taken(0, 1) ~ -12", "taken(0, 2) ~ -12", "taken(0, 4) ~ -12", "taken(0, 5) ~ -12", "taken(4, 6) ~ -12",
            "taken(2, 4) ~ -12", "taken(1, 6) ~ -12");
        rich("Promise 34: BAD, NOTHING, CAST: the first that its words name", "taken(5, 7) ~ -2", "taken(-1, -1) ~ -2");
    }

    private static void count() {
        rich("Promise 35: how many: 0 SOUNDS, 1 STREETS, 2 SEEN, 3 of the PLAN, 4 of the BOOK, 5 bytes of THE TEXT, 6 bodies that ran",
            "count(0) ~ 5", "count(1) ~ 1", "count(2) ~ 2", "count(3) ~ 3", "count(4) ~ 3", "count(5) ~ 6", "count(6) ~ 12");
        EDGES.edgeOn(Rich.FULL, "Promise 35: how many, if it is full", "count(0) ~ 6", "count(1) ~ 6", "count(2) ~ 5", "count(3) ~ 10",
            "count(4) ~ 8", "count(6) ~ 0", "lose(0) = 0", "count(0) ~ 6");
        rich("Promise 35: BAD", "count(-1) ~ -2", "count(7) ~ -2", "count(MIN) ~ -2", "count(MAX) ~ -2");
    }

    private static void tape() {
        edge("3: TAPES 0 .. 5 hold nothing (at first)", "item(0, 0, 1) ~ -11", "item(1, 0, 1) ~ -11", "item(2, 0, 1) ~ -11", "item(3, 0, 1) ~ -11",
            "item(4, 0, 1) ~ -11", "item(5, 0, 1) ~ -11", "read(0, 0) ~ NO", "read(5, 0) ~ NO", "tape(0, 0, 1) = 1", "tape(5, 0, 1) = 1",
            "item(0, 0, 1) = 1", "item(5, 0, 2) = 1", "read(0, 0) = 1", "read(5, 0) = 2", "item(4, 0, 1) ~ -11");
        for (int sort = 0; sort < 5; sort++) {
            String row = "tape(2, " + sort + ", ";
            edge("Promise 36: a row of n (0 .. 60) of a sort: " + SORTS[sort], row + "60) = 1", "item(2, 59, 1) = 1", "item(2, 60, 1) ~ -13",
                "read(2, 59) = 1", "read(2, 60) = NO", row + "1) = 1", "item(2, 0, 1) = 1", "item(2, 1, 1) ~ -13", "read(2, 1) = NO",
                row + "0) = 1", "item(2, 0, 1) ~ -13", "read(2, 0) = NO", "shift(2, 0, 2, 0, 0) = 0");
            edge("Promise 36: all 0", row + "60) = 1", "read(2, 0) = 0", "read(2, 59) = 0", "item(2, 0, 1) = 1", "item(2, 30, 1) = 1",
                "item(2, 59, 1) = 1", row + "60) = 1", "read(2, 0) = 0", "read(2, 30) = 0", "read(2, 59) = 0");
            edge("Promise 36: all 0, from another sort", "tape(2, 3, 60) = 1", "item(2, 0, -1) = 1", "item(2, 59, -1) = 1", row + "60) = 1",
                "read(2, 0) = 0", "read(2, 59) = 0");
            edge("Promise 36: SIZE", row + "2) = 1", "item(2, 1, 1) = 1", row + "-1) ~ -14", row + "MIN) ~ -14", "read(2, 1) = 1");
            edge("Promise 36: BAD: n above 60", row + "2) = 1", "item(2, 1, 1) = 1", row + "61) ~ -2", row + "MAX) ~ -2", "read(2, 1) = 1");
            edge("Promise 36: or holds nothing (sort -1: n does not matter): 1", row + "2) = 1", "tape(2, -1, 5) = 1", "item(2, 0, 0) ~ -11",
                "read(2, 0) = NO", row + "2) = 1", "tape(2, -1, -1) = 1", "item(2, 0, 0) = -11", row + "2) = 1", "tape(2, -1, 61) = 1",
                "item(2, 0, 0) = -11", "tape(2, -1, MIN) ~ 1", "tape(2, -1, MAX) ~ 1");
        }
        rich("Promise 36: NONE: tape", "tape(-1, 0, 1) ~ -1", "tape(6, 0, 1) ~ -1", "tape(MIN, 0, 1) ~ -1", "tape(MAX, 0, 1) ~ -1",
            "tape(6, -1, 1) ~ -1");
        rich("Promise 36: BAD: sort", "tape(0, -2, 1) ~ -2", "tape(0, 5, 1) ~ -2", "tape(0, MIN, 1) ~ -2", "tape(0, MAX, 1) ~ -2");
        rich("Promise 36: NONE, BAD, SIZE: the first that its words name", "tape(6, 5, -1) ~ -1", "tape(-1, 0, 61) ~ -1", "tape(6, 0, -1) ~ -1",
            "tape(0, 5, -1) ~ -2", "tape(0, -2, MIN) ~ -2", "tape(0, 5, 61) ~ -2");
    }

    private static void kept(int sort, String... valueAndDue) {
        String[] lines = new String[1 + valueAndDue.length];
        lines[0] = "tape(3, " + sort + ", 2) = 1";
        for (int i = 0; i < valueAndDue.length; i += 2) {
            lines[i + 1] = "item(3, 1, " + valueAndDue[i] + ") = 1";
            lines[i + 2] = "read(3, 1) ~ " + valueAndDue[i + 1];
        }
        edge("Promise 37: its lowest bits, as many as an item has: " + SORTS[sort], Edges.joined(lines, "read(3, 0) = 0"));
    }

    private static void item() {
        kept(0, "127", "127", "128", "-128", "255", "-1", "256", "0", "-128", "-128", "-129", "127", "-256", "0", "MOST", "-1", "NO", "0");
        kept(1, "32767", "32767", "32768", "-32768", "65535", "-1", "65536", "0", "-32768", "-32768", "-32769", "32767", "MOST", "-1", "NO", "0");
        kept(2, "MAX", "MAX", "2147483648", "MIN", "4294967295", "-1", "4294967296", "0", "MIN", "MIN", "-2147483649", "MAX", "MOST", "-1",
            "NO", "0");
        kept(3, "MOST", "MOST", "NO", "NO", "-1", "-1", "4294967296", "4294967296", "0", "0");
        kept(4, "0", "0", "1", "1", "2", "1", "-1", "1", "256", "1", "4294967296", "1", "MOST", "1", "NO", "1", "0", "0");
        rich("Promise 37: item i of a TAPE becomes v: 1", "item(0, 0, 5) = 1", "item(0, 7, 6) = 1", "read(0, 0) = 5", "read(0, 7) = 6",
            "read(0, 1) = 37", "read(0, 6) = 0", "read(1, 0) = -3");
        rich("Promise 37: NONE", "item(-1, 0, 1) ~ -1", "item(6, 0, 1) ~ -1", "item(MIN, 0, 1) ~ -1", "item(MAX, 0, 1) ~ -1");
        rich("Promise 37: NOTHING", "item(4, 0, 1) ~ -11", "item(5, 59, 1) ~ -11");
        rich("Promise 37: PLACE", "item(0, -1, 1) ~ -13", "item(0, 8, 1) ~ -13", "item(0, MIN, 1) ~ -13", "item(0, MAX, 1) ~ -13",
            "item(2, 60, 1) ~ -13", "item(2, 61, 1) ~ -13");
        rich("Promise 37: NONE, NOTHING, PLACE: the first that its words name", "item(6, -1, 1) ~ -1", "item(5, -1, 1) ~ -11",
            "item(5, 60, 1) ~ -11", "item(-1, 99, 1) ~ -1");
    }

    private static void read() {
        rich("Promise 38: item i of a TAPE", "read(0, 1) ~ 37", "read(0, 4) ~ -7", "read(0, 0) ~ 0", "read(1, 0) ~ -3", "read(2, 59) ~ 99",
            "read(3, 2) ~ 1", "read(3, 3) ~ 0");
        rich("Promise 38: NO: no such TAPE", "read(-1, 0) ~ NO", "read(6, 0) ~ NO", "read(MIN, 0) ~ NO", "read(MAX, 0) ~ NO");
        rich("Promise 38: NO: nothing there", "read(4, 0) ~ NO", "read(5, 0) ~ NO", "tape(0, -1, 0) = 1", "read(0, 1) ~ NO");
        rich("Promise 38: NO: no such place", "read(0, -1) ~ NO", "read(0, 8) ~ NO", "read(0, MIN) ~ NO", "read(0, MAX) ~ NO",
            "read(2, 60) ~ NO", "tape(2, 2, 0) = 1", "read(2, 0) ~ NO");
    }

    private static void shift() {
        String sentence = "Promise 39: n items of a TAPE from i on come to another one from j on: n";
        String[] two = {"tape(0, 2, 5) = 1", "tape(1, 2, 3) = 1", "item(0, 0, 10) = 1", "item(0, 1, 11) = 1", "item(0, 2, 12) = 1",
            "item(0, 3, 13) = 1", "item(0, 4, 14) = 1", "tape(5, 2, 60) = 1", "item(5, 59, 7) = 1"};
        EDGES.edgeOn(two, sentence, "shift(0, 3, 1, 1, 2) = 2", "read(1, 0) = 0", "read(1, 1) = 13", "read(1, 2) = 14", "read(0, 3) = 13",
            "shift(0, 0, 1, 0, 3) = 3", "read(1, 0) = 10", "read(1, 1) = 11", "read(1, 2) = 12", "shift(0, 4, 1, 0, 1) = 1", "read(1, 0) = 14",
            "read(1, 1) = 11", "shift(1, 2, 0, 0, 1) = 1", "read(0, 0) = 12", "read(0, 1) = 11");
        EDGES.edgeOn(two, "Promise 39: (or the same), as they all were before", "shift(0, 0, 0, 1, 4) = 4", "read(0, 0) = 10", "read(0, 1) = 10",
            "read(0, 2) = 11", "read(0, 3) = 12", "read(0, 4) = 13", "shift(0, 1, 0, 0, 4) = 4", "read(0, 0) = 10", "read(0, 1) = 11",
            "read(0, 2) = 12", "read(0, 3) = 13", "read(0, 4) = 13", "shift(0, 0, 0, 0, 5) ~ 5", "shift(0, 2, 0, 2, 3) ~ 3");
        EDGES.edgeOn(two, "Promise 39: none of them: 0", "shift(0, 0, 1, 0, 0) ~ 0", "shift(0, 5, 1, 3, 0) ~ 0", "shift(0, 5, 0, 5, 0) ~ 0",
            "shift(0, 5, 1, 0, 0) ~ 0", "shift(0, 0, 1, 3, 0) ~ 0");
        EDGES.edgeOn(two, "Promise 39: the longest", "item(0, 0, 1) = 1", "tape(4, 2, 60) = 1", "shift(5, 0, 4, 0, 60) = 60", "read(4, 59) = 7",
            "shift(5, 59, 4, 0, 1) = 1", "read(4, 0) = 7", "shift(5, 60, 4, 60, 0) ~ 0");
        for (int sort = 0; sort < 5; sort++) {
            edge("Promise 39: of like sorts: " + SORTS[sort], "tape(0, " + sort + ", 2) = 1", "tape(1, " + sort + ", 2) = 1", "item(0, 0, 1) = 1",
                "shift(0, 0, 1, 1, 1) = 1", "read(1, 0) = 0", "read(1, 1) = 1");
            for (int other = 0; other < 5; other++) {
                if (other != sort) {
                    edge("Promise 39: CAST: of unlike sorts", "tape(0, " + sort + ", 2) = 1", "tape(1, " + other + ", 2) = 1", "item(0, 0, 1) = 1",
                        "shift(0, 0, 1, 1, 1) ~ -12", "shift(0, 0, 1, 0, 0) ~ -12", "tape(1, " + other + ", 0) = 1", "shift(0, 0, 1, 0, 0) ~ -12");
                }
            }
        }
    }

    private static void shiftRefused() {
        String[] two = {"tape(0, 2, 5) = 1", "tape(1, 2, 3) = 1", "tape(2, 3, 5) = 1", "item(0, 0, 10) = 1", "item(0, 4, 14) = 1",
            "item(1, 2, 9) = 1"};
        EDGES.edgeOn(two, "Promise 39: NONE: tapes", "shift(-1, 0, 1, 0, 1) ~ -1", "shift(6, 0, 1, 0, 1) ~ -1", "shift(0, 0, -1, 0, 1) ~ -1",
            "shift(0, 0, 6, 0, 1) ~ -1", "shift(MIN, 0, 1, 0, 1) ~ -1", "shift(0, 0, MAX, 0, 1) ~ -1", "shift(MAX, 0, MIN, 0, 1) ~ -1");
        EDGES.edgeOn(two, "Promise 39: NOTHING", "shift(5, 0, 0, 0, 1) ~ -11", "shift(0, 0, 5, 0, 1) ~ -11", "shift(4, 0, 5, 0, 0) ~ -11",
            "shift(5, 0, 5, 0, 0) ~ -11");
        EDGES.edgeOn(two, "Promise 39: PLACE: n, i or j is below 0", "shift(0, 0, 1, 0, -1) ~ -13", "shift(0, -1, 1, 0, 1) ~ -13",
            "shift(0, 0, 1, -1, 1) ~ -13", "shift(0, 1, 1, 1, -1) ~ -13", "shift(0, -1, 1, 0, 0) ~ -13", "shift(0, 0, 1, -1, 0) ~ -13",
            "shift(0, MIN, 1, 0, 1) ~ -13", "shift(0, 0, 1, MIN, 1) ~ -13", "shift(0, 0, 1, 0, MIN) ~ -13", "shift(0, MIN, 1, MIN, MIN) ~ -13",
            "shift(0, 0, 0, 0, -1) ~ -13");
        EDGES.edgeOn(two, "Promise 39: PLACE: beyond either's end", "shift(0, 4, 1, 0, 2) ~ -13", "shift(0, 5, 1, 0, 1) ~ -13",
            "shift(0, 6, 1, 0, 0) ~ -13", "shift(0, 0, 1, 2, 2) ~ -13", "shift(0, 0, 1, 3, 1) ~ -13", "shift(0, 0, 1, 4, 0) ~ -13",
            "shift(0, 0, 1, 0, 4) ~ -13", "shift(0, 0, 0, 1, 5) ~ -13", "shift(0, 1, 0, 0, 5) ~ -13", "shift(0, 0, 0, 0, 6) ~ -13",
            "shift(0, MAX, 1, 0, 1) ~ -13", "shift(0, 0, 1, MAX, 1) ~ -13", "shift(0, 1, 1, 1, MAX) ~ -13", "shift(0, MAX, 1, MAX, MAX) ~ -13",
            "shift(0, MAX, 1, 0, 0) ~ -13", "shift(0, 0, 1, MAX, 0) ~ -13", "shift(0, 0, 0, 0, MAX) ~ -13");
        EDGES.edgeOn(two, "Promise 39: NONE, NOTHING, CAST, PLACE: the first that its words name", "shift(6, 0, 5, 0, -1) ~ -1",
            "shift(5, 0, 6, 0, 1) ~ -1", "shift(6, 0, 2, -1, 1) ~ -1", "shift(5, -1, 0, 0, 1) ~ -11", "shift(2, 0, 5, 0, -1) ~ -11",
            "shift(5, 0, 2, 9, 1) ~ -11", "shift(0, -1, 2, 0, 1) ~ -12", "shift(0, 0, 2, 0, -1) ~ -12", "shift(2, 0, 1, 0, 9) ~ -12");
    }

    /** A sight sees each change that is not to be by a refused call. */
    private static void sights() {
        for (String change : new String[] {"sound(0, 0, 0, 0) = 5", "set(3, 1) = 16", "pass(4, 1) = ?", "lose(1) = 2", "find(3, 4) = ?",
            "row(0, 2, 1) = 8", "feed(50) = 7", "street() = 1", "years(1) = 5", "see(0, 9, 0) = 3", "plan(1, 1) = 4", "book(4, 3) = 4",
            "image() = 5", "undo() = 5", "act(0, 0, 0) = ?", "tape(4, 4, 0) = 1", "tape(1, 2, 6) = 1", "item(3, 1, 1) = 1",
            "shift(0, 1, 0, 2, 1) = 1", "see(-1, 0, 0) = 0", "plan(-1, 0) = 0", "book(-1, 0) = 0"}) {
            EDGES.isSeen(Rich.LINES, "a sight", change);
        }
    }
}
