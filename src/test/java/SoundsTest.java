/** Promises 1 to 11: sounds and streets. All that is due was worked out by hand. */
public final class SoundsTest {
    private static final Due DUE = new Due("SoundsTest");

    public static void main(String[] args) {
        aNewObject();
        soundsCome();
        whatASoundIs();
        heardOfKinds();
        wears();
        set();
        passed();
        lostAndFound();
        rows();
        fed();
        streets();
        testsOfClauses();
        faults();
        told();
        DUE.end();
    }

    private static void aNewObject() {
        DUE.part("promise 1");
        SqueakShop x = new SqueakShop();
        for (int what = 0; what <= 6; what++) {
            DUE.is("count(" + what + ")", x.count(what), 0);
        }
        DUE.is("told(0)", x.told(0), 0);
        DUE.is("told(1)", x.told(1), 6);
        DUE.is("told(2)", x.told(2), 10);
        DUE.is("told(3)", x.told(3), 1);
        DUE.is("told(5)", x.told(5), 31);
        DUE.is("of(0, 0)", x.of(0, 0), -1001);
        DUE.is("undo()", x.undo(), -3);
        DUE.is("NONE", SqueakShop.NONE, -1);
        DUE.is("BAD", SqueakShop.BAD, -2);
        DUE.is("STATE", SqueakShop.STATE, -3);
        DUE.is("FULL", SqueakShop.FULL, -4);
        DUE.is("NO", SqueakShop.NO, Long.MIN_VALUE);
    }

    private static void soundsCome() {
        DUE.part("promise 2");
        SqueakShop x = new SqueakShop();
        DUE.is("kind -1", x.sound(-1, 0, 0, 0), -1);
        DUE.is("kind 7", x.sound(7, 0, 0, 0), -1);
        DUE.is("house -1", x.sound(0, 0, 0, -1), -1);
        DUE.is("house 5", x.sound(0, 0, 0, 5), -1);
        DUE.is("v -1", x.sound(0, -1, 0, 0), -2);
        DUE.is("v 10", x.sound(0, 10, 0, 0), -2);
        DUE.is("loud -1", x.sound(0, 0, -1, 0), -2);
        DUE.is("loud 100", x.sound(0, 0, 100, 0), -2);
        DUE.is("NONE ahead of BAD", x.sound(0, 10, 100, 5), -1);
        DUE.is("none came", x.count(0), 0);
        DUE.is("the 1st", x.sound(0, 0, 0, 0), 0);
        DUE.is("the 2nd", x.sound(6, 9, 99, 4), 1);
        for (int i = 2; i < 6; i++) {
            DUE.is("one more", x.sound(i, i, i, 2), i);
        }
        DUE.is("a 7th", x.sound(0, 0, 0, 0), -4);
        DUE.is("BAD ahead of FULL", x.sound(0, 10, 0, 0), -2);
        DUE.is("NONE ahead of FULL", x.sound(0, 0, 0, 5), -1);
        DUE.is("as many as before", x.count(0), 6);
    }

    private static void whatASoundIs() {
        DUE.part("promise 3");
        SqueakShop x = new SqueakShop();
        x.sound(6, 7, 45, 3);
        DUE.is("KIND", x.of(0, 0), 6);
        DUE.is("v", x.of(0, 1), 7);
        DUE.is("LOUD", x.of(0, 2), 45);
        DUE.is("HOUSE", x.of(0, 3), 3);
        DUE.is("WEARS", x.of(0, 4), 0);
        for (int what : new int[] {-1, 5, 9, 15, 19, 25, 100, Integer.MIN_VALUE, Integer.MAX_VALUE}) {
            DUE.is("of(0, " + what + ")", x.of(0, what), -1001);
        }
        DUE.is("of(-1, 0)", x.of(-1, 0), -1001);
        DUE.is("of(1, 0)", x.of(1, 0), -1001);
        Due.street(x, "loud 10 h=1;soft 5 h>2;soft 99 h=4");
        DUE.is("VOICE, none holds", x.of(0, 10), 45);
        DUE.is("VOICE, loud", x.of(0, 11), 55);
        DUE.is("VOICE, soft", x.of(0, 13), 40);
        DUE.is("VOICE, 0 at least", x.of(0, 14), 0);
        DUE.is("HEARD by the VOICE of its own HOUSE", x.of(0, 21), 34);
        x.set(0, 0);
        DUE.is("VOICE, LOUD 0", x.of(0, 11), 0);
        x.set(0, 45);
        x.lose(0);
        DUE.is("LOST: HOUSE", x.of(0, 3), -5);
        DUE.is("LOST: VOICE", x.of(0, 10), 0);
        DUE.is("LOST: HEARD", x.of(0, 23), 0);
        DUE.is("LOST: LOUD", x.of(0, 2), 45);
    }

    private static void heard(SqueakShop x, int sound, int... due) {
        for (int house = 0; house < 5; house++) {
            DUE.is("of(" + sound + ", " + (20 + house) + ")", x.of(sound, 20 + house), due[house]);
        }
    }

    private static void heardOfKinds() {
        DUE.part("promise 3, HEARD");
        SqueakShop x = new SqueakShop();
        x.sound(0, 3, 25, 1);
        x.sound(1, 3, 25, 1);
        x.sound(2, 3, 25, 1);
        x.sound(3, 3, 25, 1);
        x.sound(4, 3, 25, 1);
        x.sound(5, 3, 25, 2);
        Due.street(x, "wall 9;wear 0");
        heard(x, 0, 16, 25, 16, 7, 0);
        heard(x, 1, 16, 25, 16, 7, 0);
        heard(x, 2, 8, 12, 8, 3, 0);
        heard(x, 3, 21, 25, 21, 17, 13);
        heard(x, 4, 0, 25, 0, 0, 0);
        heard(x, 5, 6, 11, 12, 8, 3);
        x.years(1);
        heard(x, 2, 16, 25, 16, 7, 0);
        heard(x, 5, 10, 19, 25, 16, 7);
        x.set(5, 0);
        heard(x, 5, 3, 3, 0, 0, 0);
        SqueakShop y = new SqueakShop();
        y.sound(6, 3, 25, 1);
        y.row(0, 0, 5);
        y.row(0, 3, 8);
        Due.street(y, "wall 9;wear 0");
        heard(y, 0, 21, 30, 21, 17, 13);
        y.years(3);
        heard(y, 0, 21, 33, 21, 17, 13);
        y.years(1);
        y.set(0, 0);
        heard(y, 0, 0, 5, 0, 0, 0);
    }

    private static void wears() {
        DUE.part("promise 3, WEARS");
        SqueakShop x = new SqueakShop();
        for (int kind = 0; kind < 5; kind++) {
            x.sound(kind, 0, 2, 0);
        }
        x.sound(6, 0, 2, 0);
        DUE.is("WEARS without a STREET", x.of(0, 4), 1);
        DUE.is("half of 1", x.of(1, 4), 0);
        Due.street(x, "wear 7");
        int[] due = {7, 3, 7, 7, 3, 0};
        for (int i = 0; i < 6; i++) {
            DUE.is("WEARS of " + i, x.of(i, 4), due[i]);
        }
        x.years(1);
        DUE.is("TOLD, YEAR is odd", x.of(5, 4), 7);
        DUE.is("TOLD did not wear in YEAR 0", x.of(5, 2), 2);
        x.lose(0);
        DUE.is("WEARS of a LOST one", x.of(0, 4), 7);
        SqueakShop y = new SqueakShop();
        y.sound(5, 0, 2, 0);
        DUE.is("RAIN", y.of(0, 4), 1);
    }

    private static void set() {
        DUE.part("promise 4");
        SqueakShop x = new SqueakShop();
        x.sound(0, 0, 20, 0);
        DUE.is("set(0, 99)", x.set(0, 99), 20);
        DUE.is("set(0, 0)", x.set(0, 0), 99);
        DUE.is("it is so", x.of(0, 2), 0);
        DUE.is("set(1, 100)", x.set(1, 100), -1);
        DUE.is("set(-1, 0)", x.set(-1, 0), -1);
        DUE.is("set(0, 100)", x.set(0, 100), -2);
        DUE.is("set(0, -1)", x.set(0, -1), -2);
        DUE.is("it is as before", x.of(0, 2), 0);
        x.lose(0);
        DUE.is("LOST", x.set(0, 8), 0);
        DUE.is("LOST, it is so", x.of(0, 2), 8);
    }

    private static void passed() {
        DUE.part("promise 5");
        SqueakShop x = new SqueakShop();
        x.sound(0, 0, 30, 2);
        x.sound(4, 0, 5, 3);
        DUE.is("pass(0, 3)", x.pass(0, 3), 35);
        DUE.is("it is there", x.of(0, 3), 3);
        DUE.is("pass(0, 2)", x.pass(0, 2), 30);
        DUE.is("2 FAR", x.pass(0, 4), -3);
        DUE.is("2 FAR, ahead", x.pass(0, 0), -3);
        DUE.is("where it is", x.pass(0, 2), -3);
        DUE.is("house 5", x.pass(0, 5), -1);
        DUE.is("house -1", x.pass(0, -1), -1);
        DUE.is("no such SOUND", x.pass(2, 1), -1);
        DUE.is("it is still there", x.of(0, 3), 2);
        x.lose(0);
        DUE.is("LOST", x.pass(0, 3), -3);
        DUE.is("LOST, to HOUSE 0", x.pass(0, 0), -3);
        DUE.is("LOST, house 5", x.pass(0, 5), -1);
        DUE.is("LOST as before", x.of(0, 3), -5);
    }

    private static void lostAndFound() {
        DUE.part("promise 6");
        SqueakShop x = new SqueakShop();
        x.sound(0, 0, 30, 3);
        x.sound(4, 0, 5, 1);
        DUE.is("lose(0)", x.lose(0), 3);
        DUE.is("again", x.lose(0), -3);
        DUE.is("lose(2)", x.lose(2), -1);
        DUE.is("lose(-1)", x.lose(-1), -1);
        DUE.is("HEARD nowhere", x.told(4), 5);
        DUE.part("promise 7");
        DUE.is("house 5", x.find(0, 5), -1);
        DUE.is("house -1", x.find(0, -1), -1);
        DUE.is("no such SOUND", x.find(2, 0), -1);
        DUE.is("not LOST", x.find(1, 0), -3);
        DUE.is("not LOST, as before", x.of(1, 3), 1);
        DUE.is("not LOST, house 5", x.find(1, 5), -1);
        DUE.is("find(0, 1)", x.find(0, 1), 35);
        DUE.is("it is there", x.of(0, 3), 1);
        DUE.is("found, not LOST", x.find(0, 2), -3);
    }

    private static void rows() {
        DUE.part("promise 8");
        SqueakShop x = new SqueakShop();
        x.sound(6, 0, 0, 0);
        x.sound(3, 0, 0, 0);
        DUE.is("row(0, 2, 9)", x.row(0, 2, 9), 0);
        DUE.is("row(0, 2, 4)", x.row(0, 2, 4), 9);
        DUE.is("another part", x.row(0, 3, 1), 0);
        DUE.is("part 4", x.row(0, 4, 1), -1);
        DUE.is("part -1", x.row(0, -1, 1), -1);
        DUE.is("no such SOUND", x.row(2, 0, 1), -1);
        DUE.is("n 10", x.row(0, 0, 10), -2);
        DUE.is("n -1", x.row(0, 0, -1), -2);
        DUE.is("another KIND", x.row(1, 0, 1), -3);
        DUE.is("BAD ahead of STATE", x.row(1, 0, 10), -2);
        DUE.is("NONE ahead of BAD", x.row(1, 4, 10), -1);
        x.years(2);
        DUE.is("in YEAR 2", x.told(10), 4);
        x.years(1);
        DUE.is("in YEAR 3", x.told(10), 1);
        x.years(3);
        DUE.is("in YEAR 6", x.told(10), 4);
    }

    private static void fed() {
        DUE.part("promise 9");
        SqueakShop x = new SqueakShop();
        DUE.is("feed(0)", x.feed(0), 1);
        DUE.is("feed(127)", x.feed(127), 2);
        DUE.is("feed(128)", x.feed(128), -2);
        DUE.is("feed(-1)", x.feed(-1), -2);
        DUE.is("bytes", x.count(5), 2);
        for (int i = 3; i <= 100; i++) {
            DUE.is("one more", x.feed('s'), i);
        }
        DUE.is("a 101st", x.feed('s'), -4);
        DUE.is("BAD ahead of FULL", x.feed(128), -2);
        DUE.is("bytes", x.count(5), 100);
    }

    private static void streets() {
        DUE.part("promise 10");
        SqueakShop x = new SqueakShop();
        DUE.is("wall 3", Due.street(x, "wall 3"), 0);
        DUE.is("WALL", x.told(1), 3);
        DUE.is("CALM is as without", x.told(2), 10);
        DUE.is("WEAR is as without", x.told(3), 1);
        DUE.is("THE TEXT is empty", x.count(5), 0);
        DUE.is("a FAULT", Due.street(x, "wall x"), -15);
        DUE.is("THE TEXT is empty after it", x.count(5), 0);
        DUE.is("the one that held holds", x.told(1), 3);
        DUE.is("as many as before", x.count(1), 1);
        DUE.is("a FAULT behind CLAUSES", Due.street(x, "wall 9;loud 5 s=0;calm 9;x"), -35);
        x.sound(0, 0, 20, 0);
        DUE.is("the one that held holds", x.told(1), 3);
        DUE.is("nothing is left of the FAULT's", Due.street(x, "wear 2"), 1);
        DUE.is("WALL is as without", x.told(1), 6);
        DUE.is("no CLAUSE is loud", x.of(0, 10), 20);
        DUE.is("the last one's n", Due.street(x, "wall 5;calm 2;wall 8;wear 4;calm 12;wear 0"), 2);
        DUE.is("WALL", x.told(1), 8);
        DUE.is("CALM", x.told(2), 12);
        DUE.is("WEAR", x.told(3), 0);
        DUE.is("WALL is as without", Due.street(x, "calm 99"), 3);
        DUE.is("WALL", x.told(1), 6);
        DUE.is("CALM", x.told(2), 99);
        for (int i = 4; i < 6; i++) {
            DUE.is("one more", Due.street(x, "wear 0" + i), i);
        }
        DUE.is("WEAR", x.told(3), 5);
        DUE.is("a 7th", Due.street(x, "wear 9"), -4);
        DUE.is("THE TEXT stays", x.count(5), 6);
        DUE.is("a 7th with a FAULT", Due.street(x, "x"), -4);
        DUE.is("THE TEXT stays", x.count(5), 7);
        DUE.is("WEAR", x.told(3), 5);
        DUE.is("STREETS", x.count(1), 6);
    }

    /** The VOICE of SOUND 2 (SQUEAK, v 4, LOUD 57) in HOUSE 3, YEAR 13, where an E makes it 1 louder. */
    private static void holds(String e, boolean due) {
        SqueakShop x = new SqueakShop();
        x.sound(0, 0, 0, 0);
        x.sound(0, 0, 0, 0);
        x.years(13);
        x.sound(1, 4, 57, 3);
        DUE.is("the street of " + e, Due.street(x, "loud 1 " + e), 0);
        DUE.is(e, x.of(2, 13), due ? 58 : 57);
    }

    private static void testsOfClauses() {
        DUE.part("promise 10, tests");
        for (String is : new String[] {"s=2", "s=02", "h=3", "k=1", "v=4", "l=5", "y=3", "s>1", "s<3", "h<10", "v>0"}) {
            holds(is, true);
            holds("!" + is, false);
        }
        for (String is : new String[] {"s=1", "s<2", "s>2", "h=2", "k=0", "v<4", "l>5", "l<5", "l=57", "y=13", "v=44"}) {
            holds(is, false);
            holds("!" + is, true);
        }
        String t = "s=2";
        String f = "s=3";
        for (int bits = 0; bits < 8; bits++) {
            boolean a = (bits & 1) != 0;
            boolean b = (bits & 2) != 0;
            boolean c = (bits & 4) != 0;
            String sa = a ? t : f;
            String sb = b ? t : f;
            String sc = c ? t : f;
            holds(sa + "|" + sb + "&" + sc, a || b && c);
            holds(sa + "&" + sb + "|" + sc, a && b || c);
            holds("(" + sa + "|" + sb + ")&" + sc, (a || b) && c);
            holds(sa + "&(" + sb + "|" + sc + ")", a && (b || c));
            holds("!" + sa + "&" + sb + "|" + sc, !a && b || c);
            holds("!(" + sa + "&" + sb + ")|" + sc, !(a && b) || c);
            holds("!!(!" + sa + "|" + sb + ")&!" + sc, (!a || b) && !c);
            holds(sa + "|" + sb + "|" + sc, a || b || c);
            holds(sa + "&" + sb + "&" + sc, a && b && c);
        }
        holds("s=3|s=2&(s=3|s=2&(s=3|s=2&(s=3|s=2&(s=3|s=2&s=2))))", true);
        holds("s=3|s=2&(s=3|s=2&(s=3|s=2&(s=3|s=2&(s=3|s=2&s=3))))", false);
        SqueakShop x = new SqueakShop();
        x.sound(0, 0, 20, 0);
        Due.street(x, "loud 10 s=0;loud 5 v=0;soft 7 h=0;soft 1 k=0;loud 50 s=1;soft 50 s=1");
        DUE.is("all together", x.of(0, 10), 27);
        SqueakShop z = new SqueakShop();
        z.sound(0, 0, 20, 0);
        String eight = "loud 1 s=0;loud 1 s=0;loud 1 s=0;loud 1 s=0;loud 1 s=0;loud 1 s=0;loud 1 s=0;loud 1 s=0;";
        for (int i = 0; i < 12; i++) {
            DUE.is("a FAULT behind 8 CLAUSES", Due.street(z, eight + "x"), -98);
        }
        DUE.is("9 CLAUSES that are loud", Due.street(z, eight + "loud 9 s=0"), 0);
        DUE.is("all together", z.of(0, 10), 37);
        SqueakShop y = new SqueakShop();
        Due.street(y, "loud 1 l=9");
        for (int loud = 0; loud < 100; loud++) {
            y.sound(0, 0, loud, 0);
            y.set(0, loud);
            DUE.is("l of LOUD " + loud, y.of(0, 10), loud / 10 == 9 ? loud + 1 : loud);
        }
    }

    private static void fault(String text, int due) {
        DUE.is("street() of " + text, Due.street(new SqueakShop(), text), -10 - due);
    }

    private static void faults() {
        DUE.part("promise 10, the FAULT");
        fault("", 0);
        fault("x", 0);
        fault("l", 1);
        fault("lx", 1);
        fault("wa", 2);
        fault("wo", 1);
        fault("weal 1", 3);
        fault("wall", 4);
        fault("wall ", 5);
        fault("wall  1", 5);
        fault("wall1", 4);
        fault("wall 1 ", 6);
        fault("wall 123", 7);
        fault("wall 1;", 7);
        fault("wall 1;;", 7);
        fault("wall -1", 5);
        fault("wall 1 s=1", 6);
        fault("Wall 1", 0);
        fault(" wall 1", 0);
        fault("loud 1", 6);
        fault("loud 1;", 6);
        fault("loud 1 ", 7);
        fault("loud 1 z=1", 7);
        fault("loud 1 s", 8);
        fault("loud 1 s!1", 8);
        fault("loud 1 s=", 9);
        fault("loud 1 s=x", 9);
        fault("loud 1 s=123", 11);
        fault("loud 1 s=1 ", 10);
        fault("loud 1 s=1)", 10);
        fault("loud 1 s=1&", 11);
        fault("loud 1 s=1||s=1", 11);
        fault("loud 1 s=1&|s=1", 11);
        fault("loud 1 (s=1", 11);
        fault("loud 1 (s=1;wall 1", 11);
        fault("loud 1 ()", 8);
        fault("loud 1 ((((s=1)))))", 18);
        fault("loud 1 (((((s=1)))))", 11);
        fault("loud 1 !!!!!s=1", 11);
        fault("loud 1 !(!(!s=1))", 11);
        fault("loud 1 (s=1|((((s=1)))))", 15);
        DUE.is("4 others", Due.street(new SqueakShop(), "loud 1 !(!(s=1))&((((s=1))))|!!!!s=1"), 0);
        String nine = "wall 1;wall 1;wall 1;wall 1;wall 1;wall 1;wall 1;wall 1;wall 1;";
        DUE.is("10 CLAUSES", Due.street(new SqueakShop(), nine + "wall 1"), 0);
        fault(nine + "wall 1;", 69);
        fault(nine + "wall 1;wall 1", 69);
        String longest = "loud 1 s=1" + "|s=1".repeat(22) + "1";
        DUE.is("99 bytes", Due.street(new SqueakShop(), longest), 0);
        DUE.is("100 bytes", Due.street(new SqueakShop(), longest.replaceFirst("1 ", "11 ")), 0);
        fault("loud 1 s=1" + "|s=1".repeat(22) + "|s", 100);
    }

    private static void told() {
        DUE.part("promise 11");
        SqueakShop x = new SqueakShop();
        x.sound(0, 0, 22, 0);
        x.sound(4, 0, 11, 3);
        x.years(2);
        DUE.is("YEAR", x.told(0), 2);
        int[] noise = {20, 14, 8, 13, 0};
        for (int house = 0; house < 5; house++) {
            DUE.is("NOISE of " + house, x.told(10 + house), noise[house]);
        }
        DUE.is("the greatest", x.told(4), 20);
        DUE.is("STILL", x.told(5), 20);
        for (int what : new int[] {-1, 6, 9, 15, Integer.MIN_VALUE, Integer.MAX_VALUE}) {
            DUE.is("told(" + what + ")", x.told(what), -1);
        }
        Due.street(x, "calm 13");
        DUE.is("STILL at CALM", x.told(5), 28);
        Due.street(x, "calm 12");
        DUE.is("not STILL above CALM", x.told(5), 20);
    }
}
