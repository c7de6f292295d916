/** Promises 29 to 39: judging, the image, acts, tapes; worked out by hand. */
public final class TapesTest {
    private static final Due DUE = new Due("TapesTest");
    private static final long NO = Long.MIN_VALUE;

    public static void main(String[] args) {
        judged();
        image();
        undone();
        acts();
        trace();
        taken();
        counts();
        tapes();
        items();
        shifts();
        DUE.end();
    }

    private static void judged() {
        DUE.part("promise 29");
        SqueakShop x = new SqueakShop();
        x.tape(1, 1, 3);
        DUE.is("none to look at, nothing there", x.judge(0, 0), -5);
        DUE.is("CAST", x.judge(1, 0), -12);
        x.sound(0, 0, 20, 0);
        x.sound(0, 0, 30, 0);
        x.sound(0, 0, 40, 0);
        x.lose(2);
        DUE.is("nothing there", x.judge(0, 0), 100);
        x.tape(0, 0, 4);
        x.item(0, 1, 20);
        x.item(0, 2, 30);
        DUE.is("the 1st is otherwise", x.judge(0, 0), 0);
        DUE.is("the 3rd is otherwise", x.judge(0, 1), 2);
        x.item(0, 3, 40);
        DUE.is("none", x.judge(0, 1), -5);
        x.tape(0, 0, 3);
        x.item(0, 1, 20);
        x.item(0, 2, 30);
        DUE.is("the row ends", x.judge(0, 1), 102);
        DUE.is("the row ends at once", x.judge(0, 3), 100);
        DUE.is("the place is beyond", x.judge(0, 99), 100);
        DUE.is("the place is far beyond", x.judge(0, Integer.MAX_VALUE), 100);
        DUE.is("the place is below 0", x.judge(0, -1), 100);
        DUE.is("the place is far below 0", x.judge(0, Integer.MIN_VALUE), 100);
        x.item(0, 2, 31);
        DUE.is("otherwise ahead of the end", x.judge(0, 1), 1);
        DUE.is("CAST ahead of the place", x.judge(1, -1), -12);
        DUE.is("tape 6", x.judge(6, 0), -1);
        DUE.is("tape -1", x.judge(-1, 0), -1);
    }

    private static SqueakShop full() {
        SqueakShop x = new SqueakShop();
        x.sound(6, 1, 20, 0);
        x.sound(1, 2, 30, 1);
        x.row(0, 2, 7);
        x.lose(1);
        x.years(2);
        x.see(1, 2, 3);
        x.plan(1, 0);
        x.book(0, 4);
        Due.street(x, "wall 8");
        return x;
    }

    private static void isFull(SqueakShop x) {
        DUE.is("SOUNDS", x.count(0), 2);
        DUE.is("KIND", x.of(0, 0), 6);
        DUE.is("v", x.of(0, 1), 1);
        DUE.is("LOUD", x.of(0, 2), 19);
        DUE.is("HOUSE", x.of(0, 3), 0);
        DUE.is("LOST", x.of(1, 3), -5);
        DUE.is("ROW", x.of(0, 20), 26);
        DUE.is("YEAR", x.told(0), 2);
        DUE.is("SEEN", x.count(2), 1);
        DUE.is("SEEN", x.louds(0, 1), 7);
        DUE.is("PLAN", x.count(3), 1);
        DUE.is("PLAN", x.ends(0), 0);
        DUE.is("BOOK", x.count(4), 1);
        DUE.is("BOOK", x.looked(), 0);
        DUE.is("the STREET", x.told(1), 8);
    }

    private static void image() {
        DUE.part("promise 30");
        SqueakShop x = full();
        isFull(x);
        DUE.is("image()", x.image(), 2);
        isFull(x);
        x.sound(0, 0, 0, 0);
        DUE.is("image()", x.image(), 3);
        DUE.is("undo()", x.undo(), 3);
        DUE.is("without SOUNDS", new SqueakShop().image(), 0);
    }

    private static void undone() {
        DUE.part("promise 31");
        SqueakShop x = full();
        DUE.is("there is none", x.undo(), -3);
        x.image();
        for (int round = 0; round < 2; round++) {
            x.set(0, 77);
            x.row(0, 2, 0);
            x.pass(0, 1);
            x.find(1, 3);
            x.years(5);
            x.sound(6, 9, 9, 2);
            x.row(2, 3, 9);
            x.see(-1, 0, 0);
            x.plan(-1, 0);
            x.book(-1, 0);
            x.see(0, 0, 0);
            x.see(0, 0, 0);
            x.plan(0, 0);
            x.plan(0, 0);
            x.book(2, 2);
            x.book(2, 2);
            Due.street(x, "wall 1" + round);
            x.feed('w');
            x.tape(1, 2, 3);
            x.act(0, 0, 0);
            DUE.is("undo()", x.undo(), 2);
            isFull(x);
            DUE.is("STREETS stay", x.count(1), 2 + round);
            DUE.is("THE TEXT stays", x.count(5), 1);
            DUE.is("TAPES stay", x.read(1, 2), 0);
            DUE.is("THE TRACE stays", x.trace(0), 71);
            x.street();
        }
        x.sound(6, 0, 0, 2);
        x.years(1);
        DUE.is("a new one's ROW is 0", x.of(2, 22), 0);
        SqueakShop y = new SqueakShop();
        y.image();
        Due.street(y, "wall 9");
        y.undo();
        DUE.is("without a STREET", y.told(1), 6);
        DUE.is("the next one", Due.street(y, "wall 7"), 1);
        SqueakShop z = new SqueakShop();
        z.sound(0, 0, 0, 0);
        z.book(0, 0);
        z.image();
        z.lose(0);
        z.image();
        z.find(0, 2);
        z.undo();
        DUE.is("the newest image", z.of(0, 3), -5);
    }

    private static void acted(SqueakShop x, int sound, int act, int arg, int due, int... bodies) {
        String call = "act(" + sound + ", " + act + ", " + arg + ")";
        DUE.is(call, x.act(sound, act, arg), due);
        DUE.is("bodies of " + call, x.count(6), bodies.length);
        for (int i = 0; i < bodies.length; i++) {
            DUE.is("trace(" + i + ") of " + call, x.trace(i), bodies[i]);
        }
        DUE.is("no more of " + call, x.trace(bodies.length), -1);
    }

    private static void acts() {
        DUE.part("promise 32");
        SqueakShop x = new SqueakShop();
        for (int kind = 0; kind < 6; kind++) {
            x.sound(kind, kind + 3, 0, 0);
        }
        acted(x, 0, 0, 7, 7, 10);
        acted(x, 0, 1, 7, 4, 11, 10);
        acted(x, 0, 2, 7, 8, 12, 11, 10);
        acted(x, 1, 0, 7, 8, 10);
        acted(x, 1, 1, 7, (8 - 4) ^ 6, 20, 11, 10);
        acted(x, 1, 2, 7, 4, 12, 20, 11, 10);
        acted(x, 2, 0, 7, 23, 30, 10);
        acted(x, 2, 1, 7, 18, 11, 30, 10);
        acted(x, 2, 2, 7, 36, 12, 11, 30, 10);
        acted(x, 3, 0, 7, 10, 10);
        acted(x, 3, 1, 7, 4, 11, 10);
        acted(x, 3, 2, 7, 8 - 2, 40, 12, 11, 10, 11, 10);
        acted(x, 4, 0, 7, -11, 50, 10);
        acted(x, 4, 1, 7, (-12 - 7) ^ 6, 51, 20, 11, 50, 10);
        acted(x, 4, 2, 7, ((-12 - 7) ^ 6) * 2, 12, 51, 20, 11, 50, 10);
        acted(x, 5, 0, 7, 26, 30, 10);
        acted(x, 5, 1, 7, 18, 11, 30, 10);
        acted(x, 5, 2, 7, 6, 60, 12, 11, 30, 10);
        SqueakShop y = new SqueakShop();
        y.sound(0, 0, 0, 0);
        y.sound(6, 5, 0, 0);
        y.lose(1);
        acted(y, 1, 0, 7, 8 ^ 5, 71, 10);
        acted(y, 1, 1, 7, (8 ^ 5) - 5 + 3, 70, 11, 71, 10, 10);
        acted(y, 1, 2, 7, 22 + (2 ^ 5) - 5 + 3, 40, 12, 70, 11, 71, 10, 10, 70, 11, 71, 10, 10);
        acted(x, 5, 0, Integer.MAX_VALUE, Integer.MAX_VALUE * 3 + 5, 30, 10);
        acted(x, 1, 0, Integer.MAX_VALUE, Integer.MIN_VALUE, 10);
        for (int[] none : new int[][] {{6, 0}, {-1, 0}, {0, 3}, {0, -1}}) {
            x.act(0, 0, 7);
            acted(x, none[0], none[1], 7, 0);
        }
    }

    private static void trace() {
        DUE.part("promise 33");
        SqueakShop x = new SqueakShop();
        DUE.is("none yet", x.trace(0), -1);
        x.sound(1, 0, 0, 0);
        acted(x, 0, 2, 0, -0 ^ 6 + 6, 12, 20, 11, 10);
        for (int i : new int[] {-1, 4, 20, Integer.MIN_VALUE, Integer.MAX_VALUE}) {
            DUE.is("trace(" + i + ")", x.trace(i), -1);
        }
        acted(x, 0, 0, 0, 0, 10);
    }

    private static void taken() {
        DUE.part("promise 34");
        SqueakShop x = new SqueakShop();
        int[] bits = {1, 3, 5, 9, 19, 37};
        for (int kind = 0; kind < 6; kind++) {
            x.sound(kind, 0, 0, 0);
            for (int k = 0; k < 7; k++) {
                DUE.is("taken(" + kind + ", " + k + ")", x.taken(kind, k), (bits[kind] >> k & 1) == 1 ? kind : -12);
            }
        }
        SqueakShop y = new SqueakShop();
        y.sound(6, 0, 0, 0);
        for (int k = 0; k < 7; k++) {
            DUE.is("TOLD for " + k, y.taken(0, k), k == 0 || k == 3 || k == 6 ? 6 : -12);
        }
        DUE.is("k 7", y.taken(0, 7), -2);
        DUE.is("k -1", y.taken(0, -1), -2);
        DUE.is("sound 1", y.taken(1, 0), -11);
        DUE.is("sound -1", y.taken(-1, 0), -11);
        DUE.is("BAD ahead of NOTHING", y.taken(1, 7), -2);
    }

    private static void counts() {
        DUE.part("promise 35");
        SqueakShop x = full();
        x.feed('x');
        x.feed('y');
        x.see(0, 0, 0);
        x.see(0, 0, 0);
        x.plan(0, 0);
        x.plan(0, 0);
        x.plan(0, 0);
        x.book(0, 0);
        x.book(0, 0);
        x.book(0, 0);
        x.book(0, 0);
        x.act(0, 2, 0);
        int[] due = {2, 1, 3, 4, 5, 2, 12};
        for (int what = 0; what < 7; what++) {
            DUE.is("count(" + what + ")", x.count(what), due[what]);
        }
        DUE.is("count(7)", x.count(7), -2);
        DUE.is("count(-1)", x.count(-1), -2);
    }

    private static void tapes() {
        DUE.part("promise 36");
        SqueakShop x = new SqueakShop();
        for (int tape = 0; tape < 6; tape++) {
            DUE.is("nothing at first", x.item(tape, 0, 0), -11);
        }
        for (int sort = 0; sort < 5; sort++) {
            DUE.is("sort " + sort, x.tape(5, sort, 60), 1);
            DUE.is("all 0", x.read(5, 59), 0);
            DUE.is("no more", x.read(5, 60), NO);
            x.item(5, 0, 1);
            x.item(5, 59, 1);
        }
        x.tape(5, 0, 60);
        DUE.is("all 0 again", x.read(5, 0), 0);
        DUE.is("all 0 again", x.read(5, 59), 0);
        DUE.is("no items", x.tape(4, 0, 0), 1);
        DUE.is("no items", x.item(4, 0, 0), -13);
        DUE.is("n 61", x.tape(5, 0, 61), -2);
        DUE.is("n -1", x.tape(5, 0, -1), -14);
        DUE.is("n far below 0", x.tape(5, 0, Integer.MIN_VALUE), -14);
        DUE.is("sort 5", x.tape(5, 5, 1), -2);
        DUE.is("sort -2", x.tape(5, -2, 1), -2);
        DUE.is("BAD ahead of SIZE", x.tape(5, 5, -1), -2);
        DUE.is("tape 6", x.tape(6, 9, -1), -1);
        DUE.is("tape -1", x.tape(-1, 0, 1), -1);
        DUE.is("it is as before", x.read(5, 59), 0);
        DUE.is("holds nothing", x.tape(5, -1, 99), 1);
        DUE.is("holds nothing", x.item(5, 0, 0), -11);
        DUE.is("nothing to read", x.read(5, 0), NO);
        DUE.is("n below 0 does not matter", x.tape(5, -1, -1), 1);
    }

    private static void kept(SqueakShop x, int tape, long v, long due) {
        DUE.is("item(" + tape + ", 1, " + v + ")", x.item(tape, 1, v), 1);
        DUE.is("read(" + tape + ", 1) of " + v, x.read(tape, 1), due);
    }

    private static void items() {
        DUE.part("promises 37 and 38");
        SqueakShop x = new SqueakShop();
        for (int sort = 0; sort < 5; sort++) {
            x.tape(sort, sort, 2);
        }
        kept(x, 0, 127, 127);
        kept(x, 0, 128, -128);
        kept(x, 0, -257, -1);
        kept(x, 1, 32767, 32767);
        kept(x, 1, 32768, -32768);
        kept(x, 1, 65535, -1);
        kept(x, 2, 0x7fffffffL, 0x7fffffffL);
        kept(x, 2, 0x80000000L, -0x80000000L);
        kept(x, 2, 0x100000005L, 5);
        kept(x, 3, Long.MAX_VALUE, Long.MAX_VALUE);
        kept(x, 3, -5, -5);
        kept(x, 4, 0, 0);
        kept(x, 4, 1, 1);
        kept(x, 4, -2, 1);
        kept(x, 4, 0x100000000L, 1);
        DUE.is("the others are as before", x.read(3, 0), 0);
        for (int i : new int[] {-1, 2, Integer.MIN_VALUE, Integer.MAX_VALUE}) {
            DUE.is("item, place " + i, x.item(3, i, 0), -13);
            DUE.is("read, place " + i, x.read(3, i), NO);
        }
        DUE.is("nothing there", x.item(5, 0, 0), -11);
        DUE.is("NOTHING ahead of PLACE", x.item(5, -1, 0), -11);
        DUE.is("nothing there to read", x.read(5, 0), NO);
        DUE.is("tape 6", x.item(6, 0, 0), -1);
        DUE.is("tape -1", x.item(-1, 0, 0), -1);
        DUE.is("read tape 6", x.read(6, 0), NO);
        DUE.is("read tape -1", x.read(-1, 0), NO);
    }

    private static void row(SqueakShop x, int tape, int... due) {
        for (int i = 0; i < due.length; i++) {
            DUE.is("read(" + tape + ", " + i + ")", x.read(tape, i), due[i]);
        }
    }

    private static void shifts() {
        DUE.part("promise 39");
        SqueakShop x = new SqueakShop();
        x.tape(0, 2, 5);
        x.tape(1, 2, 3);
        x.tape(2, 3, 5);
        for (int i = 0; i < 5; i++) {
            x.item(0, i, i + 1);
        }
        DUE.is("to another", x.shift(0, 3, 1, 1, 2), 2);
        row(x, 1, 0, 4, 5);
        row(x, 0, 1, 2, 3, 4, 5);
        DUE.is("on the same, up", x.shift(0, 0, 0, 1, 4), 4);
        row(x, 0, 1, 1, 2, 3, 4);
        DUE.is("on the same, down", x.shift(0, 2, 0, 0, 3), 3);
        row(x, 0, 2, 3, 4, 3, 4);
        DUE.is("all of it, to itself", x.shift(0, 0, 0, 0, 5), 5);
        DUE.is("none, at the ends", x.shift(0, 5, 1, 3, 0), 0);
        DUE.is("beyond the end of the one", x.shift(0, 4, 1, 0, 2), -13);
        DUE.is("beyond the end of the other", x.shift(0, 0, 1, 2, 2), -13);
        DUE.is("none, beyond the end of the one", x.shift(0, 6, 1, 0, 0), -13);
        DUE.is("none, beyond the end of the other", x.shift(0, 0, 1, 4, 0), -13);
        DUE.is("n -1", x.shift(0, 0, 1, 0, -1), -13);
        DUE.is("i -1", x.shift(0, -1, 1, 0, 1), -13);
        DUE.is("j -1", x.shift(0, 0, 1, -1, 1), -13);
        int max = Integer.MAX_VALUE;
        DUE.is("far beyond", x.shift(0, max, 1, 0, 1), -13);
        DUE.is("far beyond", x.shift(0, 0, 1, max, 1), -13);
        DUE.is("far beyond", x.shift(0, 1, 1, 1, max), -13);
        DUE.is("far below", x.shift(0, Integer.MIN_VALUE, 1, 1, Integer.MIN_VALUE), -13);
        DUE.is("unlike sorts", x.shift(0, 0, 2, 0, 1), -12);
        DUE.is("CAST ahead of PLACE", x.shift(0, 0, 2, 0, -1), -12);
        DUE.is("nothing there", x.shift(0, 0, 5, 0, 1), -11);
        DUE.is("nothing there", x.shift(5, 0, 0, 0, 1), -11);
        DUE.is("NOTHING ahead of PLACE", x.shift(5, 0, 0, 0, -1), -11);
        DUE.is("tape 6", x.shift(6, 0, 5, 0, 1), -1);
        DUE.is("other 6", x.shift(5, 0, 6, 0, 1), -1);
        DUE.is("other -1", x.shift(0, 0, -1, 0, 1), -1);
        row(x, 0, 2, 3, 4, 3, 4);
        row(x, 1, 0, 4, 5);
        x.tape(3, 4, 2);
        x.tape(4, 4, 2);
        x.item(3, 0, 1);
        DUE.is("booleans", x.shift(3, 0, 4, 1, 1), 1);
        row(x, 4, 0, 1);
    }
}
