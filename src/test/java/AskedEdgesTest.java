/** The edges of the second part of "Terms" and of promises 12 to 28, sentence by sentence; worked out by hand. */
public final class AskedEdgesTest {
    private static final Edges EDGES = new Edges("AskedEdgesTest");
    /** A SOUND is HEARD in its own HOUSE alone by such a WALL. */
    private static final String[] WALLED = {"street(wall 99;calm 20) = 0"};

    public static void main(String[] args) {
        years();
        on();
        beyond();
        stillBy();
        lasts();
        home();
        shared();
        change();
        worst();
        fewest();
        see();
        louds();
        can();
        where();
        odds();
        mean();
        plan();
        ends();
        book();
        looked();
        asked();
        EDGES.end();
    }

    private static void edge(String sentence, String... lines) {
        EDGES.edge(sentence, lines);
    }

    private static void rich(String sentence, String... lines) {
        EDGES.edgeOn(Rich.LINES, sentence, lines);
    }

    private static void full(String sentence, String... lines) {
        EDGES.edgeOn(Rich.FULL, sentence, lines);
    }

    private static void late(String sentence, String... lines) {
        EDGES.edgeOn(Rich.LATE, sentence, lines);
    }

    private static void walled(String sentence, String... lines) {
        EDGES.edgeOn(WALLED, sentence, lines);
    }

    private static void years() {
        edge("Promise 12: n YEARS (0 .. 60) go: YEAR", "sound(0, 0, 99, 0) = 0", "years(0) ~ 0", "of(0, 2) = 99", "years(1) = 1",
            "of(0, 2) = 98", "years(60) = 61", "of(0, 2) = 38", "years(0) ~ 61", "years(59) = 120", "of(0, 2) = 0", "told(0) = 120");
        rich("Promise 12: BAD", "years(-1) ~ -2", "years(61) ~ -2", "years(MIN) ~ -2", "years(MAX) ~ -2", "years(-60) ~ -2");
        String above = "Promise 12: STATE: it would be above 9999";
        late(above, "years(1) ~ -3", "years(60) ~ -3", "years(0) ~ 9999", "told(0) = 9999", "of(0, 2) = 20");
        edge(above, "166 * years(60) = 9960", "years(40) ~ -3", "years(60) ~ -3", "told(0) = 9960", "years(39) = 9999");
        edge(above, "166 * years(60) = 9960", "years(38) = 9998", "years(2) ~ -3", "years(1) = 9999", "years(1) ~ -3");
        late("Promise 12: BAD, STATE: the first that its words name", "years(61) ~ -2", "years(-1) ~ -2", "years(MAX) ~ -2");
    }

    private static void on() {
        String[] two = {"sound(0, 0, 20, 0) = 0", "sound(2, 0, 61, 4) = 1"};
        EDGES.edgeOn(two, "Promise 13: ON: what 0 the greatest NOISE, 10 and h NOISE of HOUSE h, 20 and s LOUD of SOUND s", "on(0, 0) ~ 38",
            "on(0, 10) ~ 38", "on(0, 14) ~ 30", "on(0, 20) ~ 20", "on(0, 21) ~ 61", "on(1, 0) ~ 60", "on(1, 14) ~ 60", "on(1, 10) ~ 55",
            "on(1, 13) ~ 55", "on(1, 20) ~ 19", "told(0) = 0");
        EDGES.edgeOn(two, "2: ON n YEARS (0 .. 60)", "on(60, 21) ~ 1", "on(59, 21) ~ 2", "on(60, 20) ~ 0", "on(60, 0) ~ 0", "on(59, 0) ~ 2",
            "on(60, 14) ~ 0", "on(59, 14) ~ 2");
        rich("Promise 13: NONE", "on(0, -1) ~ -1", "on(0, 1) ~ -1", "on(0, 9) ~ -1", "on(0, 15) ~ -1", "on(0, 19) ~ -1", "on(0, 25) ~ -1",
            "on(0, 26) ~ -1", "on(0, MIN) ~ -1", "on(0, MAX) ~ -1", "on(0, -10) ~ -1", "on(0, -20) ~ -1");
        full("Promise 13: NONE: there are SOUNDS 0 .. 5 at most", "on(0, 25) ~ 94", "on(0, 26) ~ -1", "on(0, 24) ~ 95");
        rich("Promise 13: BAD: n", "on(-1, 0) ~ -2", "on(61, 0) ~ -2", "on(MIN, 0) ~ -2", "on(MAX, 0) ~ -2", "on(-1, 12) ~ -2",
            "on(61, 12) ~ -2", "on(-1, 24) ~ -2", "on(61, 24) ~ -2");
        rich("Promise 13: NONE, BAD: the first that its words name", "on(61, 1) ~ -1", "on(-1, 15) ~ -1", "on(61, 25) ~ -1");
        edge("Promise 13: of a LOST one LOUD is as it is", "sound(0, 0, 20, 0) = 0", "lose(0) = 0", "on(0, 20) ~ 20", "on(60, 20) ~ 20",
            "on(60, 0) ~ 0");
    }

    /** From YEAR 9999 on. */
    private static void beyond() {
        String sentence = "2: goes on from how all is (YEARS beyond 9999, too), and changes nothing";
        late(sentence, "on(1, 20) ~ 19", "on(1, 21) ~ 19", "on(2, 21) ~ 19", "on(3, 21) ~ 18", "on(60, 20) ~ 0", "on(60, 23) ~ 20",
            "on(1, 10) ~ 29", "on(1, 12) ~ 29", "on(1, 0) ~ 29", "told(0) = 9999", "of(0, 2) = 20");
        late(sentence, "when(0, 0) ~ 12", "when(1, 0) ~ 20", "when(1, 1) ~ 39", "when(1, 2) ~ 20", "when(1, 3) ~ -5", "mean(1, 0) ~ 132",
            "mean(1, 1) ~ 5", "mean(60, 0) ~ 0");
        late(sentence, "plan(0, 0) = 1", "ends(0) ~ 29", "ends(1) ~ 0", "9 * plan(0, 0) = 10", "ends(0) ~ 19", "told(0) = 9999");
        late(sentence, "see(0, 29, 1) = 1", "louds(0, 0) ~ 1", "louds(0, 1) ~ 20", "where(0) ~ 1", "see(-1, 0, 0) = 0", "see(4, 0, 20) = 1",
            "louds(1, 0) ~ 11", "row(1, 3, 9) = 0", "louds(1, 0) ~ 0");
        edge("2: y and ROWS beyond 9999", "166 * years(60) = 9960", "years(39) = 9999", "sound(6, 3, 20, 4) = 0", "row(0, 0, 5) = 0",
            "row(0, 3, 1) = 0", "street(wear 0;loud 50 y=0;loud 2 y=9) = 0", "on(0, 14) ~ 23", "on(1, 14) ~ 75", "on(5, 14) ~ 25",
            "on(9, 14) ~ 25", "on(2, 14) ~ 20");
        edge("2: goes on from how all is: the last SOUND's KIND, v, LOUD, HOUSE, too", "5 * sound(0, 0, 0, 0) = 4", "sound(5, 9, 30, 3) = 5",
            "street(wear 2;wall 4;loud 5 v=9&k=5&s=5&h=3) = 0", "on(0, 10) ~ 20", "on(0, 13) ~ 17", "on(0, 14) ~ 15", "on(1, 10) ~ 30",
            "on(1, 13) ~ 33", "on(1, 25) ~ 28", "on(1, 24) ~ 0", "mean(0, 0) ~ 98", "mean(0, 1) ~ 5");
        edge("2: goes on from how all is: the last SOUND's ROW, too", "6 * sound(6, 0, 20, 4) = 5", "row(5, 0, 9) = 0", "row(5, 3, 4) = 0",
            "street(wear 0;wall 99) = 0", "on(0, 14) ~ 129", "on(1, 14) ~ 120", "on(3, 14) ~ 124", "on(4, 0) ~ 129", "mean(3, 0) ~ 124",
            "3 * plan(0, 0) = 3", "ends(0) ~ 124", "see(4, 124, 3) = 1", "louds(5, 1) ~ 20");
    }

    private static void stillBy() {
        String by = "2: STILL BY of a HOUSE: the fewest YEARS (0 .. 60) behind which it is STILL (-5: not by then)";
        edge(by, "sound(0, 0, 10, 0) = 0", "when(0, 0) ~ 0", "set(0, 11) = 10", "when(0, 0) ~ 1", "set(0, 69) = 11", "when(0, 0) ~ 59",
            "set(0, 70) = 69", "when(0, 0) ~ 60", "set(0, 71) = 70", "when(0, 0) ~ -5", "when(0, 1) ~ 55", "when(0, 4) ~ 37",
            "set(0, 99) = 71", "when(0, 0) ~ -5", "when(0, 4) ~ -5", "set(0, 0) = 99", "when(0, 0) ~ 0");
        edge(by, "sound(0, 0, 71, 3) = 0", "when(0, 3) ~ -5", "when(0, 4) ~ 55", "when(0, 0) ~ 43", "street(wear 0) = 0", "when(0, 4) ~ -5");
        edge("2: STILL BY: the fewest, though it is not STILL behind more", "sound(2, 0, 22, 0) = 0", "when(0, 0) ~ 2", "on(2, 10) ~ 10",
            "on(3, 10) ~ 19", "street(calm 11) = 0", "when(0, 0) ~ 0", "on(1, 10) ~ 21");
        rich("Promise 14: NONE: no such HOUSE", "when(0, -1) ~ -1", "when(0, 5) ~ -1", "when(0, MIN) ~ -1", "when(0, MAX) ~ -1");
    }

    private static void lasts() {
        String lasts = "2: LASTS of a SOUND: the fewest YEARS (0 .. 60) behind which its LOUD is 0 (-5: not by then, or it is LOST)";
        edge(lasts, "sound(0, 0, 0, 0) = 0", "when(1, 0) ~ 0", "set(0, 1) = 0", "when(1, 0) ~ 1", "set(0, 60) = 1", "when(1, 0) ~ 60",
            "set(0, 61) = 60", "when(1, 0) ~ -5", "street(wear 2) = 0", "when(1, 0) ~ 31", "street(wear 99) = 1", "when(1, 0) ~ 1",
            "street(wear 0) = 2", "when(1, 0) ~ -5", "set(0, 0) = 61", "when(1, 0) ~ 0");
        edge(lasts, "sound(0, 0, 5, 0) = 0", "sound(0, 0, 0, 0) = 1", "when(1, 0) ~ 5", "lose(0) = 0", "when(1, 0) ~ -5", "lose(1) = 0",
            "when(1, 1) ~ -5", "find(1, 0) = 0", "when(1, 1) ~ 0");
        edge(lasts, "sound(6, 0, 1, 0) = 0", "when(1, 0) ~ 2", "set(0, 30) = 1", "when(1, 0) ~ 60", "set(0, 31) = 30", "when(1, 0) ~ -5",
            "years(1) = 1", "when(1, 0) ~ -5", "set(0, 30) = 31", "when(1, 0) ~ 59", "sound(1, 0, 1, 0) = 1", "when(1, 1) ~ -5");
        edge(lasts, "sound(0, 0, 5, 0) = 0", "sound(0, 0, 6, 0) = 1", "sound(0, 0, 7, 0) = 2", "lose(1) = 0", "when(1, 0) ~ 5", "when(1, 1) ~ -5",
            "when(1, 2) ~ 7", "find(1, 4) = 6", "lose(0) = 0", "when(1, 0) ~ -5", "when(1, 1) ~ 6", "lose(2) = 0", "when(1, 2) ~ -5");
        rich("Promise 14: NONE: no such SOUND", "when(1, -1) ~ -1", "when(1, 5) ~ -1", "when(1, 6) ~ -1", "when(1, MIN) ~ -1", "when(1, MAX) ~ -1");
        rich("Promise 14: NONE: no such what", "when(-1, 0) ~ -1", "when(2, 0) ~ -1", "when(MIN, 0) ~ -1", "when(MAX, 0) ~ -1");
        full("Promise 14: the last SOUND", "when(1, 5) ~ -5", "when(1, 6) ~ -1");
    }

    private static void home() {
        walled("2: HOME: the HOUSE in which it should be, so that the greatest NOISE is least (of several the first)", "sound(0, 0, 30, 0) = 0",
            "sound(0, 0, 20, 1) = 1", "sound(0, 0, 10, 0) = 2", "home(0) ~ 2", "home(1) ~ 1", "home(2) ~ 1");
        walled("2: HOME: HOUSE 4 may be it, and HOUSE 0", "sound(0, 0, 50, 0) = 0", "sound(0, 0, 50, 1) = 1", "sound(0, 0, 50, 2) = 2",
            "sound(0, 0, 50, 3) = 3", "sound(0, 0, 10, 2) = 4", "home(4) ~ 4", "home(0) ~ 0", "home(3) ~ 3", "lose(4) = 2", "home(3) ~ 3",
            "lose(0) = 0", "home(3) ~ 0", "home(1) ~ 0");
        walled("2: HOME: a LOST one is found by that", "sound(0, 0, 30, 0) = 0", "sound(0, 0, 20, 1) = 1", "lose(0) = 0", "home(0) ~ 0",
            "lose(1) = 1", "home(1) ~ 0", "find(0, 0) = 30", "home(1) ~ 1", "of(1, 3) = -5");
        edge("2: HOME: less by 1 is less", "sound(0, 0, 20, 0) = 0", "street(soft 1 h=1) = 0", "home(0) ~ 1", "street(soft 1 h=1;soft 2 h=4) = 1",
            "home(0) ~ 4");
        edge("2: HOME: by how it is HEARD from there", "sound(0, 0, 20, 2) = 0", "street(loud 5 h<3) = 0", "home(0) ~ 3", "street(soft 5 h=4) = 1",
            "home(0) ~ 4", "street(loud 1 h>9) = 2", "home(0) ~ 0");
        rich("Promise 15: NONE", "home(-1) ~ -1", "home(5) ~ -1", "home(6) ~ -1", "home(MIN) ~ -1", "home(MAX) ~ -1");
    }

    private static void shared() {
        String[] lots = Edges.joined(WALLED, "sound(0, 0, 30, 4) = 0", "sound(0, 0, 20, 4) = 1", "sound(0, 0, 10, 4) = 2",
            "sound(0, 0, 99, 4) = 3", "lose(3) = 4");
        EDGES.edgeOn(lots, "Promise 16: SHARED: what 0 the greatest, 1 all, together, 10 and s HOUSE of SOUND s (-5: LOST)", "shared(0) ~ 30",
            "shared(1) ~ 60", "shared(10) ~ 0", "shared(11) ~ 1", "shared(12) ~ 1", "shared(13) ~ -5");
        EDGES.edgeOn(lots, "Promise 16: NONE", "shared(-1) ~ -1", "shared(2) ~ -1", "shared(9) ~ -1", "shared(14) ~ -1", "shared(15) ~ -1",
            "shared(16) ~ -1", "shared(MIN) ~ -1", "shared(MAX) ~ -1", "shared(-10) ~ -1");
        walled("2: SHARED: six SOUNDS into five HOUSES", "6 * sound(0, 0, 60, 2) = 5", "shared(0) ~ 120", "shared(1) ~ 360", "shared(10) ~ 0",
            "shared(11) ~ 0", "shared(12) ~ 1", "shared(13) ~ 1", "shared(14) ~ 2", "shared(15) ~ 2", "shared(16) ~ -1");
        walled("2: SHARED: each a HOUSE of its own, the first row of them", "5 * sound(0, 0, 60, 2) = 4", "shared(0) ~ 60", "shared(10) ~ 0",
            "shared(11) ~ 1", "shared(12) ~ 2", "shared(13) ~ 3", "shared(14) ~ 4");
        walled("2: SHARED: all of them are LOST", "2 * sound(0, 0, 60, 2) = 1", "lose(0) = 2", "lose(1) = 2", "shared(0) ~ 0", "shared(1) ~ 0",
            "shared(10) ~ -5", "shared(11) ~ -5", "shared(12) ~ -1");
        edge("2: SHARED: without SOUNDS", "shared(0) ~ 0", "shared(1) ~ 0", "shared(10) ~ -1");
        String[] one = {"sound(0, 0, 20, 2) = 0"};
        EDGES.edgeOn(one, "2: SHARED: of these that by which all NOISE, together, is least (of several the first)", "street(wall 8) = 0",
            "shared(0) ~ 20", "shared(1) ~ 36", "shared(10) ~ 0", "street(wall 8;soft 1 h=4) = 1", "shared(10) ~ 4", "shared(0) ~ 19",
            "shared(1) ~ 33");
        walled("2: SHARED: all NOISE, together, is least by 1 alone", "street(wall 99;soft 1 s=1&h=3) = 1", "sound(4, 0, 50, 2) = 0",
            "sound(0, 0, 20, 2) = 1", "shared(0) ~ 50", "shared(1) ~ 69", "shared(10) ~ 0", "shared(11) ~ 3");
        edge("2: SHARED: through thin walls", "sound(0, 0, 20, 2) = 0", "sound(0, 0, 30, 2) = 1", "street(wall 2) = 0", "shared(0) ~ 42",
            "shared(1) ~ 210", "shared(10) ~ 0", "shared(11) ~ 4", "sound(3, 0, 9, 2) = 2", "shared(0) ~ 51", "shared(1) ~ 245", "shared(12) ~ 0",
            "street(wall 0) = 1", "shared(0) ~ 59", "shared(1) ~ 295", "shared(12) ~ 0");
        edge("2: SHARED: of all ways: the last ones are best in HOUSE 0 and 4, the one ahead is not", "3 * sound(0, 0, 30, 2) = 2",
            "street(wall 0;soft 1 s=0&h=1;soft 1 s=1&h=0;soft 1 s=2&h=4) = 0", "shared(0) ~ 87", "shared(1) ~ 435", "shared(10) ~ 1",
            "shared(11) ~ 0", "shared(12) ~ 4");
        walled("2: SHARED: the first one is LOST", "3 * sound(0, 0, 30, 2) = 2", "lose(0) = 2", "shared(0) ~ 30", "shared(1) ~ 60",
            "shared(10) ~ -5", "shared(11) ~ 0", "shared(12) ~ 1");
        edge("2: SHARED: of each SOUND that is not LOST: a LOST one is nothing, though it is LOUD", "sound(0, 0, 30, 2) = 0",
            "sound(0, 0, 20, 2) = 1", "lose(1) = 2", "street(wall 0;soft 1 h=1) = 0", "shared(0) ~ 29", "shared(1) ~ 145", "shared(10) ~ 1",
            "shared(11) ~ -5");
        EDGES.edgeOn(one, "2: SHARED: the greatest NOISE is ahead of all, together", "street(wall 8;loud 1 h=0;loud 1 h=4) = 0", "shared(0) ~ 20",
            "shared(1) ~ 48", "shared(10) ~ 1");
    }

    private static void change() {
        String sentence = "2: CHANGE: the two SOUNDS that should have each other's HOUSE (10 times the lesser and the greater number)";
        walled(sentence, "sound(0, 0, 30, 0) = 0", "sound(0, 0, 10, 1) = 1", "sound(0, 0, 20, 0) = 2", "best(0) ~ 1");
        walled(sentence, "3 * sound(0, 0, 0, 0) = 2", "sound(0, 0, 20, 0) = 3", "sound(0, 0, 30, 0) = 4", "sound(0, 0, 10, 1) = 5",
            "best(0) ~ 45");
        walled("2: CHANGE: if less than it is (-5: none)", "sound(0, 0, 30, 0) = 0", "best(0) ~ -5", "sound(0, 0, 20, 1) = 1", "best(0) ~ -5",
            "sound(0, 0, 0, 0) = 2", "best(0) ~ -5", "set(2, 1) = 0", "best(0) ~ 1", "set(1, 30) = 20", "best(0) ~ -5", "set(1, 29) = 30",
            "best(0) ~ 1");
        walled("2: CHANGE: of several the first", "sound(0, 0, 20, 0) = 0", "sound(0, 0, 20, 0) = 1", "sound(0, 0, 10, 1) = 2",
            "sound(0, 0, 10, 2) = 3", "best(0) ~ 2", "set(2, 20) = 10", "best(0) ~ 3");
        walled("2: CHANGE: neither LOST", "sound(0, 0, 20, 0) = 0", "sound(0, 0, 20, 0) = 1", "sound(0, 0, 10, 1) = 2", "best(0) ~ 2",
            "lose(0) = 0", "best(0) ~ -5", "find(0, 0) = 40", "lose(2) = 1", "best(0) ~ -5", "find(2, 1) = 10", "lose(1) = 0", "best(0) ~ -5",
            "sound(0, 0, 15, 0) = 3", "best(0) ~ 2");
        walled("2: CHANGE: neither LOST, though the LOST one is less LOUD", "sound(0, 0, 5, 0) = 0", "sound(0, 0, 20, 0) = 1", "lose(0) = 0",
            "best(0) ~ -5", "sound(0, 0, 6, 3) = 2", "sound(0, 0, 20, 4) = 3", "lose(2) = 3", "best(0) ~ -5");
        walled("2: CHANGE: neither LOST, of which the lesser is not the first", "sound(0, 0, 20, 1) = 0", "sound(0, 0, 5, 0) = 1",
            "sound(0, 0, 30, 0) = 2", "lose(1) = 0", "best(0) ~ -5");
        edge("2: CHANGE: -5: none", "best(0) ~ -5");
        rich("Promise 17: NONE", "best(-1) ~ -1", "best(2) ~ -1", "best(MIN) ~ -1", "best(MAX) ~ -1");
    }

    private static void worst() {
        String sentence = "2: WORST: the SOUND without which (it being LOST) the greatest NOISE is least (of several the first)";
        walled(sentence, "sound(0, 0, 30, 0) = 0", "sound(0, 0, 20, 1) = 1", "sound(0, 0, 15, 1) = 2", "best(1) ~ 1", "set(0, 50) = 30",
            "best(1) ~ 0", "set(0, 35) = 50", "best(1) ~ 0", "set(2, 0) = 15", "best(1) ~ 0");
        walled(sentence, "5 * sound(0, 0, 10, 0) = 4", "sound(0, 0, 11, 0) = 5", "best(1) ~ 5", "set(5, 10) = 11", "best(1) ~ 0");
        walled("2: WORST: without a LOST one all is as it is", "sound(0, 0, 30, 0) = 0", "sound(0, 0, 20, 1) = 1", "lose(0) = 0", "best(1) ~ 1",
            "lose(1) = 1", "best(1) ~ 0");
        walled(sentence, "sound(0, 0, 10, 0) = 0", "sound(0, 0, 10, 1) = 1", "sound(0, 0, 15, 1) = 2", "best(1) ~ 2");
        edge("2: WORST: -5: there are none", "best(1) ~ -5", "sound(0, 0, 0, 0) = 0", "best(1) ~ 0");
    }

    private static void few(String sentence, String[] sounds, int few, int first, int second, int third) {
        EDGES.edgeOn(Edges.joined(WALLED, sounds), sentence, "fewest(-1) ~ " + few, "fewest(0) ~ " + first, "fewest(1) ~ " + second,
            "fewest(2) ~ " + third);
    }

    private static void fewest() {
        String few = "2: FEWEST: how few SOUNDS PASSED ON (0 .. 3) are enough so that all HOUSES are STILL (-5: by no so few)";
        few(few, new String[] {}, 0, -5, -5, -5);
        few(few, new String[] {"sound(0, 0, 20, 0) = 0", "sound(0, 0, 20, 4) = 1"}, 0, -5, -5, -5);
        few(few, new String[] {"sound(0, 0, 21, 0) = 0"}, -5, -5, -5, -5);
        few(few, new String[] {"sound(0, 0, 20, 4) = 0", "sound(0, 0, 1, 4) = 1"}, 1, 3, -5, -5);
        few(few, new String[] {"sound(0, 0, 20, 0) = 0", "sound(0, 0, 1, 0) = 1"}, 1, 1, -5, -5);
        few(few, new String[] {"sound(0, 0, 20, 0) = 0", "sound(0, 0, 20, 0) = 1", "sound(0, 0, 20, 1) = 2"}, 2, 1, 2, -5);
        few(few, new String[] {"2 * sound(0, 0, 20, 0) = 1", "sound(0, 0, 20, 1) = 2", "sound(0, 0, 20, 2) = 3"}, 3, 1, 2, 3);
        few(few, new String[] {"2 * sound(0, 0, 20, 0) = 1", "sound(0, 0, 20, 1) = 2", "sound(0, 0, 20, 2) = 3",
            "sound(0, 0, 20, 3) = 4"}, -5, -5, -5, -5);
        few(few, new String[] {"3 * sound(0, 0, 20, 0) = 2"}, 3, 1, 2, 11);
        few(few, new String[] {"3 * sound(0, 0, 20, 4) = 2"}, 3, 3, 2, 13);
        few("2: FEWEST: 10 times the SOUND and the HOUSE", new String[] {"sound(0, 0, 20, 0) = 0", "sound(0, 0, 20, 1) = 1",
            "sound(0, 0, 20, 2) = 2", "sound(0, 0, 0, 0) = 3", "sound(0, 0, 20, 3) = 4", "sound(0, 0, 9, 3) = 5"}, 1, 44, -5, -5);
        few("2: FEWEST: 10 times the SOUND and the HOUSE", new String[] {"street(wall 99;calm 20;loud 5 s=4) = 1", "sound(0, 0, 20, 0) = 0",
            "sound(0, 0, 20, 1) = 1", "sound(0, 0, 20, 2) = 2", "sound(0, 0, 0, 0) = 3", "sound(0, 0, 15, 3) = 4", "sound(0, 0, 9, 3) = 5",
            "street(wall 99;calm 20;loud 5 s=4;loud 1 s=4&h=4) = 2"}, 1, 54, -5, -5);
        few("2: FEWEST: a LOST one is not PASSED ON", new String[] {"sound(0, 0, 20, 0) = 0", "sound(0, 0, 9, 0) = 1", "sound(0, 0, 9, 0) = 2",
            "lose(0) = 0"}, 0, -5, -5, -5);
        few("2: FEWEST: a LOST one is not PASSED ON", new String[] {"sound(0, 0, 20, 0) = 0", "sound(0, 0, 20, 0) = 1", "sound(0, 0, 9, 0) = 2",
            "lose(0) = 0"}, 1, 11, -5, -5);
        few("2: FEWEST: a LOST one is not PASSED ON, the others are", new String[] {"3 * sound(0, 0, 20, 0) = 2", "lose(1) = 0"}, 1, 1, -5, -5);
        few("2: FEWEST: a LOST one is not PASSED ON, the others are", new String[] {"sound(0, 0, 20, 1) = 0", "2 * sound(0, 0, 20, 4) = 2",
            "sound(0, 0, 20, 0) = 3", "lose(1) = 4", "sound(0, 0, 1, 4) = 4"}, 1, 23, -5, -5);
        few("2: FEWEST: of several rows with so many the first", new String[] {"sound(0, 0, 11, 1) = 0", "sound(0, 0, 10, 1) = 1"}, 1, 0, -5, -5);
        edge("2: FEWEST: STILL by CALM 0", "street(calm 0;wall 99) = 0", "fewest(-1) ~ 0", "sound(0, 0, 0, 0) = 0", "fewest(-1) ~ 0",
            "sound(0, 0, 1, 0) = 1", "fewest(-1) ~ -5", "lose(1) = 0", "fewest(-1) ~ 0");
        String number = "Promise 18: k -1 how few, else the k-th (-5: there are fewer); NONE: k (-1 .. 2)";
        rich(number, "fewest(-2) ~ -1", "fewest(3) ~ -1", "fewest(MIN) ~ -1", "fewest(MAX) ~ -1");
        edge(number, "fewest(-1) ~ 0", "fewest(0) ~ -5", "fewest(2) ~ -5", "fewest(3) ~ -1", "fewest(-2) ~ -1");
    }

    private static void see() {
        String told = "2: SEEN told by hand: a HOUSE, its NOISE (0 .. 999) behind n YEARS (0 .. 20) from now";
        edge(told, "see(0, 0, 0) = 1", "see(4, 999, 20) = 2", "count(2) = 2");
        rich("Promise 19: NONE", "see(-2, 0, 0) ~ -1", "see(5, 0, 0) ~ -1", "see(MIN, 0, 0) ~ -1", "see(MAX, 0, 0) ~ -1");
        rich("Promise 19: BAD: noise", "see(0, -1, 0) ~ -2", "see(0, 1000, 0) ~ -2", "see(0, MIN, 0) ~ -2", "see(0, MAX, 0) ~ -2");
        rich("Promise 19: BAD: n", "see(0, 0, -1) ~ -2", "see(0, 0, 21) ~ -2", "see(0, 0, MIN) ~ -2", "see(0, 0, MAX) ~ -2");
        full("Promise 19: FULL: 5", "see(0, 0, 0) ~ -4", "see(4, 999, 20) ~ -4", "count(2) = 5");
        full("Promise 19: NONE, BAD, FULL: the first that its words name", "see(5, 1000, 0) ~ -1", "see(-2, 0, 21) ~ -1", "see(0, 1000, 0) ~ -2",
            "see(0, 0, 21) ~ -2", "see(5, 0, 0) ~ -1");
        edge("Promise 19: how many there are", "see(0, 1, 0) = 1", "see(0, 1, 0) = 2", "see(1, 1, 1) = 3", "see(1, 1, 1) = 4", "see(1, 1, 1) = 5",
            "see(1, 1, 1) = -4");
        String none = "Promise 19: house -1: none then, 0, whatever the others are";
        full(none, "see(-1, -1, -1) = 0", "count(2) = 0", "see(-1, MAX, MIN) ~ 0", "see(0, 1, 1) = 1", "count(2) = 1");
        full(none, "see(-1, 1000, 21) = 0", "5 * see(2, 3, 4) = 5", "see(2, 3, 4) = -4");
        rich(none, "see(-1, MIN, MAX) = 0", "where(0) = 31");
        edge("2: the greatest NOISE that can be told", "5 * sound(0, 0, 99, 2) = 4", "sound(4, 0, 5, 2) = 5", "street(wall 0;loud 99 s<5) = 0",
            "see(2, 999, 0) = 1", "louds(5, 0) ~ 1", "louds(5, 1) ~ 9");
        edge("2: behind 20 YEARS, and behind 19", "sound(0, 0, 30, 0) = 0", "see(0, 10, 20) = 1", "louds(0, 1) ~ 30", "see(0, 11, 19) = 2",
            "louds(0, 1) ~ 30", "see(0, 12, 19) = 3", "louds(0, 1) ~ -5");
        edge("2: n YEARS from now", "sound(0, 0, 3, 0) = 0", "see(0, 3, 1) = 1", "louds(0, 1) ~ 4", "years(2) = 2", "louds(0, 1) ~ 4");
        edge("2: told in whatever order", "sound(0, 0, 3, 0) = 0", "see(0, 5, 7) = 1", "see(0, 12, 0) = 2", "see(0, 9, 3) = 3", "louds(0, 0) ~ 1",
            "louds(0, 1) ~ 12");
        for (int place = 1; place <= 5; place++) {
            String[] lines = new String[7];
            lines[0] = "sound(0, 0, 20, 0) = 0";
            for (int i = 1; i <= 5; i++) {
                lines[i] = "see(1, " + (i == place ? 13 : 14) + ", 0) = " + i;
            }
            lines[6] = "louds(0, 1) ~ -5";
            edge("2: all of SEEN is so", lines);
        }
    }

    private static void louds() {
        String[] jar = {"sound(4, 0, 9, 2) = 0"};
        EDGES.edgeOn(jar, "2: LOUDS: how many numbers (0 .. 40) there are; the least", "louds(0, 0) ~ 41", "louds(0, 1) ~ 0", "see(2, 0, 0) = 1",
            "louds(0, 0) ~ 1", "louds(0, 1) ~ 0", "see(-1, 0, 0) = 0", "see(2, 40, 0) = 1", "louds(0, 0) ~ 1", "louds(0, 1) ~ 40",
            "see(-1, 0, 0) = 0", "see(2, 41, 0) = 1", "louds(0, 0) ~ 0", "louds(0, 1) ~ -5", "of(0, 2) = 9");
        EDGES.edgeOn(jar, "2: LOUDS: of several the least", "see(2, 0, 5) = 1", "louds(0, 0) ~ 1", "street(wear 2) = 0", "louds(0, 0) ~ 6",
            "louds(0, 1) ~ 0", "see(2, 1, 4) = 2", "louds(0, 0) ~ 1", "louds(0, 1) ~ 5", "street(wear 2;soft 7 l=1) = 1",
            "see(-1, 0, 0) = 0", "see(2, 9, 0) = 1", "louds(0, 0) ~ 2", "louds(0, 1) ~ 9");
        EDGES.edgeOn(jar, "2: LOUDS: -5: none", "see(3, 1, 0) = 1", "louds(0, 0) ~ 0", "louds(0, 1) ~ -5");
        EDGES.edgeOn(jar, "2: LOUDS of a LOST one", "lose(0) = 2", "louds(0, 0) ~ 41", "see(2, 0, 3) = 1", "louds(0, 0) ~ 41", "see(2, 1, 0) = 2",
            "louds(0, 0) ~ 0", "louds(0, 1) ~ -5");
        rich("Promise 20: NONE: sound", "louds(-1, 0) ~ -1", "louds(5, 0) ~ -1", "louds(MIN, 0) ~ -1", "louds(MAX, 1) ~ -1");
        rich("Promise 20: NONE: what", "louds(0, -1) ~ -1", "louds(0, 2) ~ -1", "louds(0, MIN) ~ -1", "louds(0, MAX) ~ -1");
    }

    private static void can() {
        String[] rain = {"sound(5, 5, 0, 4) = 0"};
        EDGES.edgeOn(rain, "2: CAN: how many numbers v (0 .. 9) there are; the least", "can(0, 0) ~ 10", "can(0, 1) ~ 0", "see(0, 0, 0) = 1",
            "can(0, 0) ~ 1", "can(0, 1) ~ 0", "see(-1, 0, 0) = 0", "see(3, 9, 20) = 1", "can(0, 0) ~ 1", "can(0, 1) ~ 9", "see(-1, 0, 0) = 0",
            "see(3, 10, 0) = 1", "can(0, 0) ~ 0", "can(0, 1) ~ -5", "of(0, 1) = 5");
        EDGES.edgeOn(rain, "2: CAN: of several the least; likewise: all of SEEN is so", "set(0, 20) = 0", "street(loud 4 v>2&v<7;wear 0) = 0",
            "see(4, 12, 0) = 1", "can(0, 0) ~ 4", "can(0, 1) ~ 3", "see(3, 13, 0) = 2", "can(0, 0) ~ 1", "can(0, 1) ~ 4", "see(3, 14, 2) = 3",
            "can(0, 0) ~ 0", "can(0, 1) ~ -5");
        EDGES.edgeOn(rain, "2: CAN of a LOST one", "lose(0) = 4", "can(0, 0) ~ 10", "see(2, 0, 3) = 1", "can(0, 0) ~ 10", "see(2, 1, 0) = 2",
            "can(0, 0) ~ 0", "can(0, 1) ~ -5");
        rich("Promise 21: NONE: sound", "can(-1, 0) ~ -1", "can(5, 0) ~ -1", "can(MIN, 0) ~ -1", "can(MAX, 1) ~ -1");
        rich("Promise 21: NONE: what", "can(0, -1) ~ -1", "can(0, 2) ~ -1", "can(0, MIN) ~ -1", "can(0, MAX) ~ -1");
    }

    private static void where() {
        String[] one = {"sound(0, 0, 20, 2) = 0"};
        EDGES.edgeOn(one, "2: WHERE: those HOUSES, as bits, by which, were it there now, likewise", "where(0) ~ 31", "see(0, 20, 0) = 1",
            "where(0) ~ 1", "see(-1, 0, 0) = 0", "see(4, 20, 0) = 1", "where(0) ~ 16", "see(-1, 0, 0) = 0", "see(2, 14, 0) = 1", "where(0) ~ 10",
            "see(1, 5, 3) = 2", "where(0) ~ 8", "see(0, 1, 0) = 3", "where(0) ~ 0", "of(0, 3) = 2");
        EDGES.edgeOn(one, "2: WHERE: were it there now (not LOST)", "lose(0) = 2", "where(0) ~ 31", "see(2, 20, 0) = 1", "where(0) ~ 4",
            "see(-1, 0, 0) = 0", "see(2, 0, 20) = 1", "where(0) ~ 31", "of(0, 3) = -5");
        EDGES.edgeOn(one, "2: WHERE: by the VOICE there", "street(loud 5 h>2) = 0", "see(3, 19, 0) = 1", "where(0) ~ 16", "see(2, 14, 0) = 2",
            "where(0) ~ 0");
        edge("2: WHERE: of the last SOUND", "5 * sound(0, 0, 0, 0) = 4", "sound(4, 0, 20, 2) = 5", "see(3, 20, 0) = 1", "where(5) ~ 8",
            "where(0) ~ 0", "where(4) ~ 0", "of(5, 3) = 2");
        rich("Promise 22: NONE", "where(-1) ~ -1", "where(5) ~ -1", "where(6) ~ -1", "where(MIN) ~ -1", "where(MAX) ~ -1");
    }

    private static void odds() {
        String[] six = Edges.joined(WALLED, "sound(0, 0, 6, 0) = 0", "sound(0, 0, 15, 0) = 1", "sound(0, 0, 5, 1) = 2", "sound(0, 0, 21, 2) = 3",
            "sound(0, 0, 11, 4) = 4", "sound(0, 0, 10, 4) = 5");
        EDGES.edgeOn(six, "2: ODDS: a fraction in lowest terms; part 0 above, 1 below the line", "odds(0, 0) ~ 1", "odds(0, 1) ~ 3",
            "odds(1, 0) ~ 1", "odds(1, 1) ~ 1", "odds(2, 0) ~ 1", "odds(2, 1) ~ 6", "odds(3, 0) ~ 1", "odds(3, 1) ~ 1", "odds(4, 0) ~ 1",
            "odds(4, 1) ~ 3", "set(0, 5) = 6", "odds(0, 0) ~ 1", "odds(0, 1) ~ 1", "set(3, 20) = 21", "odds(2, 0) ~ 1", "odds(2, 1) ~ 1");
        walled("2: ODDS: never: 0 by 1", "2 * sound(0, 0, 21, 0) = 1", "odds(0, 0) ~ 0", "odds(0, 1) ~ 1", "sound(0, 0, 0, 0) = 2",
            "odds(0, 0) ~ 0", "odds(0, 1) ~ 1");
        walled("2: ODDS: in lowest terms", "3 * sound(0, 0, 8, 0) = 2", "odds(0, 0) ~ 1", "odds(0, 1) ~ 1", "sound(0, 0, 0, 0) = 3",
            "odds(0, 0) ~ 3", "odds(0, 1) ~ 4", "sound(0, 0, 0, 0) = 4", "odds(0, 0) ~ 3", "odds(0, 1) ~ 5", "sound(0, 0, 0, 0) = 5",
            "odds(0, 0) ~ 1", "odds(0, 1) ~ 2");
        walled("2: ODDS: if one SOUND, each alike likely, is LOST now: that may be one that is LOST", "2 * sound(0, 0, 20, 0) = 1",
            "2 * sound(0, 0, 20, 1) = 3", "lose(2) = 1", "odds(0, 0) ~ 1", "odds(0, 1) ~ 2", "odds(1, 0) ~ 1", "odds(1, 1) ~ 1");
        walled("2: ODDS: of one SOUND", "sound(0, 0, 99, 0) = 0", "odds(0, 0) ~ 1", "odds(0, 1) ~ 1");
        edge("Promise 23: NO: no SOUNDS", "odds(0, 0) ~ NO", "odds(4, 1) ~ NO", "sound(0, 0, 0, 0) = 0", "odds(0, 0) ~ 1");
        rich("Promise 23: NO: house", "odds(-1, 0) ~ NO", "odds(5, 0) ~ NO", "odds(MIN, 0) ~ NO", "odds(MAX, 1) ~ NO");
        rich("Promise 23: NO: part", "odds(0, -1) ~ NO", "odds(0, 2) ~ NO", "odds(0, MIN) ~ NO", "odds(0, MAX) ~ NO");
    }

    private static void mean() {
        String[] one = {"sound(0, 0, 20, 0) = 0"};
        EDGES.edgeOn(one, "2: MEAN of n YEARS (0 .. 60): NOISE of all HOUSES behind n, together, by 5: a fraction in lowest terms",
            "mean(0, 0) ~ 44", "mean(0, 1) ~ 5", "mean(1, 0) ~ 8", "mean(1, 1) ~ 1", "mean(19, 0) ~ 1", "mean(19, 1) ~ 5", "mean(20, 0) ~ 0",
            "mean(20, 1) ~ 1", "mean(60, 0) ~ 0", "mean(60, 1) ~ 1", "set(0, 61) = 20", "mean(60, 0) ~ 1", "mean(60, 1) ~ 5",
            "mean(56, 0) ~ 1", "mean(56, 1) ~ 1", "told(0) = 0");
        edge("2: MEAN without SOUNDS", "mean(0, 0) ~ 0", "mean(0, 1) ~ 1", "mean(60, 0) ~ 0", "mean(60, 1) ~ 1");
        rich("Promise 24: NO: n", "mean(-1, 0) ~ NO", "mean(61, 0) ~ NO", "mean(MIN, 0) ~ NO", "mean(MAX, 1) ~ NO");
        rich("Promise 24: NO: part", "mean(0, -1) ~ NO", "mean(0, 2) ~ NO", "mean(0, MIN) ~ NO", "mean(60, MAX) ~ NO");
    }

    private static void plan() {
        rich("Promise 25: NONE: what (0 .. 3)", "plan(-2, 0) ~ -1", "plan(4, 0) ~ -1", "plan(MIN, 0) ~ -1", "plan(MAX, 0) ~ -1");
        rich("Promise 25: NONE: SOUND", "plan(1, -1) ~ -1", "plan(1, 5) ~ -1", "plan(2, 5) ~ -1", "plan(3, 5) ~ -1", "plan(2, -1) ~ -1",
            "plan(3, -1) ~ -1", "plan(1, MIN) ~ -1", "plan(3, MAX) ~ -1", "plan(1, 4) = 4", "plan(1, 0) = 5");
        edge("Promise 25: (but by 0)", "plan(0, 0) = 1", "plan(0, -1) = 2", "plan(0, 6) = 3", "plan(0, MIN) = 4", "plan(0, MAX) = 5",
            "ends(0) = 0");
        full("Promise 25: FULL: 10", "plan(0, 0) ~ -4", "plan(1, 0) ~ -4", "plan(3, 5) ~ -4", "count(3) = 10");
        full("Promise 25: NONE, FULL: the first that its words name", "plan(4, 0) ~ -1", "plan(-2, 0) ~ -1", "plan(1, 6) ~ -1",
            "plan(3, -1) ~ -1");
        edge("Promise 25: how many there are", "sound(0, 0, 0, 0) = 0", "plan(0, 0) = 1", "plan(1, 0) = 2", "plan(2, 0) = 3", "plan(3, 0) = 4",
            "6 * plan(0, 9) = 10", "plan(0, 0) = -4");
        String none = "Promise 25: what -1: it is empty then, 0, whatever the other is";
        full(none, "plan(-1, MIN) = 0", "count(3) = 0", "plan(-1, MAX) ~ 0", "plan(-1, 0) ~ 0", "10 * plan(0, 0) = 10", "plan(0, 0) = -4");
        rich(none, "plan(-1, -1) = 0", "count(3) = 0", "ends(0) = 100");
    }

    private static void ends() {
        // it is HEARD by its number more in each HOUSE, so that it is seen where it is
        String[] one = {"street(wall 99;loud 1 h=1;loud 2 h=2;loud 3 h=3;loud 4 h=4;wear 5) = 0", "sound(0, 0, 20, 3) = 0"};
        EDGES.edgeOn(one, "2: a PLAN: 2 SOUND n is PASSED ON to the HOUSE behind (nothing in HOUSE 4)", "ends(0) ~ 23", "plan(2, 0) = 1",
            "ends(0) ~ 24", "plan(2, 0) = 2", "ends(0) ~ 24", "plan(3, 0) = 3", "ends(0) ~ 23", "plan(2, 0) = 4", "ends(0) ~ 24",
            "of(0, 3) = 3");
        EDGES.edgeOn(one, "2: a PLAN: 3 to the one ahead (nothing in HOUSE 0)", "plan(3, 0) = 1", "ends(0) ~ 22", "plan(3, 0) = 2", "ends(0) ~ 21",
            "plan(3, 0) = 3", "ends(0) ~ 20", "plan(3, 0) = 4", "ends(0) ~ 20", "plan(2, 0) = 5", "ends(0) ~ 21", "of(0, 3) = 3");
        EDGES.edgeOn(one, "2: a PLAN: 1 SOUND n is LOST; nothing, if it is LOST", "plan(1, 0) = 1", "ends(0) ~ 0", "ends(1) ~ 5", "plan(2, 0) = 2",
            "ends(0) ~ 0", "plan(3, 0) = 3", "ends(0) ~ 0", "plan(1, 0) = 4", "ends(0) ~ 0", "plan(0, 0) = 5", "ends(0) ~ 0", "of(0, 3) = 3");
        EDGES.edgeOn(one, "2: a PLAN: nothing, if it is LOST (now)", "lose(0) = 3", "plan(2, 0) = 1", "ends(0) ~ 0", "plan(3, 0) = 2", "ends(0) ~ 0",
            "plan(1, 0) = 3", "ends(1) ~ 5", "find(0, 1) = 21", "ends(0) ~ 0", "plan(-1, 0) = 0", "plan(3, 0) = 1", "ends(0) ~ 20");
        EDGES.edgeOn(one, "2: a PLAN: 0 a YEAR", "plan(0, 0) = 1", "ends(0) ~ 18", "plan(0, 0) = 2", "ends(0) ~ 13", "told(0) = 0");
        edge("2: a PLAN: 0 a YEAR: YEAR is 1 more", "sound(2, 0, 21, 0) = 0", "ends(0) ~ 10", "plan(0, 0) = 1", "ends(0) ~ 20", "plan(0, 0) = 2",
            "ends(0) ~ 9");
        edge("2: a PLAN: 10 rows at most, all of which go", "sound(0, 0, 50, 0) = 0", "sound(0, 0, 20, 4) = 1", "9 * plan(0, 0) = 9",
            "ends(0) ~ 41", "plan(1, 0) = 10", "ends(0) ~ 11");
        edge("2: a PLAN: 10 rows at most, all of which go", "sound(0, 0, 50, 0) = 0", "10 * plan(0, 0) = 10", "ends(0) ~ 40", "plan(0, 0) = -4",
            "ends(0) ~ 40");
        // each is HEARD by its HOUSE's number more, in all HOUSES alike
        String[] three = {"street(wall 0;loud 1 h=1;loud 2 h=2;loud 3 h=3;loud 4 h=4;wear 0) = 0", "sound(0, 0, 20, 0) = 0",
            "sound(0, 0, 20, 4) = 1", "sound(0, 0, 20, 2) = 2"};
        EDGES.edgeOn(three, "2: a PLAN: SOUND n, whichever it is", "ends(0) ~ 66", "plan(3, 1) = 1", "ends(0) ~ 65", "plan(2, 2) = 2",
            "ends(0) ~ 66", "plan(2, 2) = 3", "ends(0) ~ 67", "plan(2, 2) = 4", "ends(0) ~ 67", "plan(3, 0) = 5", "ends(0) ~ 67",
            "plan(2, 0) = 6", "ends(0) ~ 68", "plan(1, 1) = 7", "ends(0) ~ 45", "plan(1, 2) = 8", "ends(0) ~ 21", "of(1, 3) = 4",
            "of(2, 3) = 2");
        EDGES.edgeOn(three, "2: a PLAN: nothing, if it is LOST, though others are not", "lose(1) = 4", "ends(0) ~ 42", "plan(3, 1) = 1",
            "plan(2, 1) = 2", "plan(1, 1) = 3", "ends(0) ~ 42", "plan(2, 2) = 4", "ends(0) ~ 43", "plan(2, 0) = 5", "ends(0) ~ 44");
        EDGES.edgeOn(three, "2: a PLAN: something, if others are LOST", "lose(0) = 0", "ends(0) ~ 46", "plan(3, 1) = 1", "ends(0) ~ 45",
            "plan(2, 2) = 2", "ends(0) ~ 46", "plan(1, 1) = 3", "ends(0) ~ 23");
        walled("2: ENDS: the greatest NOISE; how many HOUSES are STILL", "sound(0, 0, 20, 0) = 0", "sound(0, 0, 21, 4) = 1", "ends(0) ~ 21",
            "ends(1) ~ 4", "plan(3, 1) = 1", "ends(1) ~ 4", "plan(1, 1) = 2", "ends(0) ~ 20", "ends(1) ~ 5");
        edge("2: ENDS: no rows: as it is", "ends(0) ~ 0", "ends(1) ~ 5", "sound(0, 0, 40, 2) = 0", "ends(0) ~ 40", "ends(1) ~ 0");
        rich("Promise 26: NONE", "ends(-1) ~ -1", "ends(2) ~ -1", "ends(MIN) ~ -1", "ends(MAX) ~ -1");
    }

    private static void book() {
        rich("Promise 27: NONE: sound", "book(-2, 0) ~ -1", "book(5, 0) ~ -1", "book(6, 0) ~ -1", "book(MIN, 0) ~ -1", "book(MAX, 0) ~ -1",
            "book(4, 0) = 4");
        rich("Promise 27: NONE: house (0 .. 5)", "book(0, -1) ~ -1", "book(0, 6) ~ -1", "book(0, MIN) ~ -1", "book(0, MAX) ~ -1", "book(0, 0) = 4",
            "book(0, 5) = 5");
        full("Promise 27: FULL: 8", "book(0, 0) ~ -4", "book(5, 5) ~ -4", "count(4) = 8");
        full("Promise 27: NONE, FULL: the first that its words name", "book(6, 0) ~ -1", "book(-2, 0) ~ -1", "book(0, 6) ~ -1", "book(0, -1) ~ -1");
        edge("Promise 27: how many there are", "sound(0, 0, 0, 0) = 0", "book(0, 0) = 1", "book(0, 0) = 2", "book(0, 5) = 3", "book(0, 4) = 4",
            "4 * book(0, 1) = 8", "book(0, 1) = -4", "count(4) = 8");
        String none = "Promise 27: sound -1: it is empty then, 0, whatever the other is";
        full(none, "book(-1, 6) = 0", "count(4) = 0", "book(-1, MIN) ~ 0", "book(-1, MAX) ~ 0", "8 * book(0, 0) = 8", "book(0, 0) = -4");
        rich(none, "book(-1, -1) = 0", "looked() = -5");
    }

    private static void looked() {
        String sentence = "2: LOOKED at: the number of the first of these rows by which it is otherwise now (-5: none)";
        edge(sentence, "looked() ~ -5", "sound(0, 0, 0, 0) = 0", "sound(0, 0, 0, 4) = 1", "looked() ~ -5", "book(0, 0) = 1", "looked() ~ -5",
            "book(1, 4) = 2", "looked() ~ -5", "book(1, 3) = 3", "looked() ~ 2", "book(0, 1) = 4", "looked() ~ 2", "pass(1, 3) = 0",
            "looked() ~ 1", "pass(0, 1) = 0", "looked() ~ 0");
        edge(sentence, "sound(0, 0, 0, 2) = 0", "7 * book(0, 2) = 7", "looked() ~ -5", "book(0, 3) = 8", "looked() ~ 7");
        edge("2: HOUSES (or 5: LOST)", "sound(0, 0, 0, 0) = 0", "sound(0, 0, 0, 4) = 1", "book(0, 5) = 1", "looked() ~ 0", "lose(0) = 0",
            "looked() ~ -5", "book(1, 5) = 2", "looked() ~ 1", "lose(1) = 4", "looked() ~ -5", "book(0, 0) = 3", "looked() ~ 2",
            "find(0, 0) = 0", "looked() ~ 0");
    }

    /** On an object with something of everything, and on one that is full. */
    private static void asked() {
        String[] calls = {"home(0)", "home(3)", "shared(0)", "shared(1)", "shared(10)", "shared(13)", "best(0)", "best(1)", "fewest(-1)",
            "fewest(0)", "fewest(1)", "fewest(2)", "louds(0, 0)", "louds(3, 1)", "can(0, 0)", "can(1, 1)", "where(0)", "where(3)",
            "odds(0, 0)", "odds(4, 1)", "mean(0, 0)", "mean(60, 1)", "ends(0)", "ends(1)", "looked()", "on(0, 0)", "on(60, 0)", "on(60, 14)",
            "on(60, 22)", "when(0, 0)", "when(0, 4)", "when(1, 0)", "when(1, 3)", "told(0)", "told(4)", "told(5)", "told(12)", "of(0, 4)",
            "of(0, 12)", "of(0, 22)", "of(3, 3)", "judge(0, 1)", "judge(5, 0)", "trace(0)", "taken(4, 3)", "count(6)", "read(0, 1)"};
        for (String call : calls) {
            EDGES.each(Rich.LINES, "What is asked changes nothing", call + " ~ ?");
            EDGES.each(Rich.FULL, "What is asked changes nothing", call + " ~ ?");
        }
        for (String call : calls) {
            EDGES.each(Edges.joined(WALLED, "3 * sound(0, 0, 20, 0) = 2", "sound(0, 0, 9, 1) = 3", "sound(6, 3, 5, 1) = 4", "lose(3) = 1",
                "see(0, 3, 3) = 1", "plan(1, 0) = 1", "plan(0, 0) = 2", "book(1, 1) = 1"), "What is asked changes nothing", call + " ~ ?");
        }
    }
}
