/** Lines for an object in which there is something of everything, for Edges. */
final class Rich {
    /** Five SOUNDS, one of them LOST; SEEN, PLAN, BOOK; THE IMAGE, and much that is otherwise since. */
    static final String[] LINES = {
        "sound(6, 5, 40, 1) = 0", "sound(5, 7, 33, 2) = 1", "sound(1, 2, 28, 2) = 2", "sound(4, 9, 19, 4) = 3",
        "sound(3, 3, 24, 0) = 4",
        "row(0, 0, 4) = 0", "row(0, 1, 6) = 0", "row(0, 2, 8) = 0", "row(0, 3, 9) = 0",
        "street(wall 5;calm 20;wear 2;loud 9 s=0&h>1|k=5;soft 3 l>2) = 0",
        "years(3) = 3", "lose(3) = 4", "see(2, 50, 1) = 1", "see(0, 9, 4) = 2",
        "plan(0, 0) = 1", "plan(2, 0) = 2", "plan(1, 4) = 3",
        "book(0, 1) = 1", "book(3, 5) = 2", "book(2, 1) = 3",
        "tape(0, 0, 8) = 1", "item(0, 1, 37) = 1", "item(0, 4, -7) = 1", "tape(1, 1, 6) = 1", "item(1, 0, -3) = 1",
        "tape(2, 0, 60) = 1", "item(2, 59, 99) = 1", "tape(3, 4, 5) = 1", "item(3, 2, 1) = 1",
        "image() = 5",
        "set(2, 22) = 25", "set(4, 30) = 18", "row(0, 1, 2) = 6", "years(1) = 4", "act(0, 2, 5) = -5", "fed(wall 1) = 6"};

    /** As full as it can be, but for THE TEXT and BYTES of TAPES; one SOUND is LOST, and there is no IMAGE. */
    static final String[] FULL = {
        "sound(0, 0, 99, 0) = 0", "sound(1, 1, 98, 1) = 1", "sound(2, 2, 97, 2) = 2", "sound(3, 3, 96, 3) = 3",
        "sound(6, 6, 95, 4) = 4", "sound(5, 9, 94, 4) = 5", "lose(3) = 3",
        "5 * street(wear 9) = 4", "street(wear 0) = 5", "fed(loud 99 s=1) = 11",
        "5 * see(4, 999, 20) = 5", "10 * plan(2, 5) = 10", "8 * book(3, 5) = 8", "tape(5, 0, 60) = 1"};

    /** The last YEAR, behind which only what is asked goes on: four SOUNDS of LOUD 20, one of them LOST. */
    static final String[] LATE = {
        "166 * years(60) = 9960", "years(39) = 9999", "sound(0, 0, 20, 0) = 0", "sound(6, 3, 20, 4) = 1",
        "sound(2, 0, 20, 2) = 2", "sound(0, 0, 20, 1) = 3", "lose(3) = 1"};

    private Rich() {
    }
}
