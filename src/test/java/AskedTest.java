/** Promises 12 to 28: years, where all had better be, seen, odds, plans, books; worked out by hand. */
public final class AskedTest {
    private static final Due DUE = new Due("AskedTest");

    public static void main(String[] args) {
        years();
        on();
        when();
        home();
        shared();
        change();
        worst();
        fewest();
        seen();
        louds();
        can();
        where();
        odds();
        mean();
        plans();
        ends();
        books();
        DUE.end();
    }

    /** A SOUND of each LOUD, in these HOUSES, with walls so thick that it is heard in its own one alone. */
    private static SqueakShop apart(int calm, int... loudAndHouse) {
        SqueakShop x = new SqueakShop();
        for (int i = 0; i < loudAndHouse.length; i += 2) {
            x.sound(0, 0, loudAndHouse[i], loudAndHouse[i + 1]);
        }
        Due.street(x, "wall 99;calm " + calm);
        return x;
    }

    private static void years() {
        DUE.part("promise 12");
        SqueakShop x = new SqueakShop();
        x.sound(0, 0, 20, 0);
        x.sound(1, 0, 20, 0);
        x.sound(6, 0, 20, 0);
        x.sound(0, 0, 20, 0);
        x.lose(3);
        Due.street(x, "wear 7");
        DUE.is("years(0)", x.years(0), 0);
        DUE.is("years(2)", x.years(2), 2);
        DUE.is("SOUND", x.of(0, 2), 6);
        DUE.is("SQUEAK", x.of(1, 2), 14);
        DUE.is("TOLD wears in odd YEARS", x.of(2, 2), 13);
        DUE.is("LOST", x.of(3, 2), 20);
        DUE.is("years(1)", x.years(1), 3);
        DUE.is("0 at least", x.of(0, 2), 0);
        DUE.is("TOLD does not in even ones", x.of(2, 2), 13);
        DUE.is("years(-1)", x.years(-1), -2);
        DUE.is("years(61)", x.years(61), -2);
        DUE.is("as before", x.told(0), 3);
        DUE.is("years(60)", x.years(60), 63);
        for (int year = 123; year < 9999; year += 60) {
            DUE.is("years(60)", x.years(60), year);
        }
        DUE.is("to 9999", x.years(36), 9999);
        DUE.is("above 9999", x.years(1), -3);
        DUE.is("BAD ahead of STATE", x.years(61), -2);
        DUE.is("years(0)", x.years(0), 9999);
        x.set(1, 50);
        DUE.is("asked beyond 9999", x.on(2, 21), 44);
    }

    private static void on() {
        DUE.part("promise 13");
        SqueakShop x = new SqueakShop();
        x.sound(0, 0, 20, 0);
        x.sound(2, 0, 31, 4);
        DUE.is("greatest in 0", x.on(0, 0), 23);
        DUE.is("greatest in 1", x.on(1, 0), 30);
        DUE.is("HOUSE 4 in 2", x.on(2, 14), 14);
        DUE.is("HOUSE 3 in 3", x.on(3, 13), 22);
        DUE.is("HOUSE 0 in 3", x.on(3, 10), 21);
        DUE.is("LOUD of 1 in 60", x.on(60, 21), 0);
        DUE.is("LOUD of 1 in 30", x.on(30, 21), 1);
        DUE.is("nothing changes", x.told(0), 0);
        DUE.is("nothing changes", x.of(1, 2), 31);
        for (int what : new int[] {-1, 1, 9, 15, 19, 22, 26, Integer.MIN_VALUE, Integer.MAX_VALUE}) {
            DUE.is("on(0, " + what + ")", x.on(0, what), -1);
        }
        DUE.is("n -1", x.on(-1, 0), -2);
        DUE.is("n 61", x.on(61, 10), -2);
        DUE.is("n 61, of a SOUND", x.on(61, 21), -2);
        DUE.is("NONE ahead of BAD", x.on(61, 22), -1);
        x.lose(0);
        DUE.is("LOST", x.on(5, 20), 20);
        SqueakShop y = new SqueakShop();
        y.sound(5, 7, 0, 3);
        y.sound(6, 7, 0, 3);
        y.row(1, 2, 9);
        DUE.is("v of RAIN", y.on(2, 11), 7);
        DUE.is("the ROW of TOLD", y.on(2, 13), 9);
    }

    private static void when() {
        DUE.part("promise 14");
        SqueakShop x = new SqueakShop();
        x.sound(0, 0, 30, 0);
        x.sound(4, 0, 99, 4);
        x.sound(0, 0, 61, 3);
        x.sound(0, 0, 60, 3);
        x.sound(0, 0, 0, 3);
        x.lose(2);
        x.lose(3);
        x.lose(4);
        DUE.is("HOUSE 0", x.when(0, 0), 20);
        DUE.is("HOUSE 1", x.when(0, 1), 14);
        DUE.is("HOUSE 3", x.when(0, 3), 2);
        DUE.is("HOUSE 4, not by then", x.when(0, 4), -5);
        DUE.is("SOUND 0", x.when(1, 0), 30);
        DUE.is("SOUND 1, not by then", x.when(1, 1), -5);
        DUE.is("LOST", x.when(1, 2), -5);
        DUE.is("LOST, LOUD 0", x.when(1, 4), -5);
        x.find(2, 3);
        x.find(3, 3);
        x.find(4, 3);
        DUE.is("61", x.when(1, 2), -5);
        DUE.is("60", x.when(1, 3), 60);
        DUE.is("0", x.when(1, 4), 0);
        DUE.is("HOUSE 5", x.when(0, 5), -1);
        DUE.is("HOUSE -1", x.when(0, -1), -1);
        DUE.is("SOUND 5", x.when(1, 5), -1);
        DUE.is("SOUND -1", x.when(1, -1), -1);
        DUE.is("what 2", x.when(2, 0), -1);
        DUE.is("what -1", x.when(-1, 0), -1);
        SqueakShop y = apart(40, 99, 2);
        DUE.is("STILL at CALM", y.when(0, 2), 59);
        y.set(0, 40);
        DUE.is("now", y.when(0, 2), 0);
        SqueakShop z = apart(39, 99, 2);
        DUE.is("in 60", z.when(0, 2), 60);
    }

    private static void home() {
        DUE.part("promise 15");
        SqueakShop x = apart(10, 30, 0, 20, 1, 10, 0);
        DUE.is("home(0), of several the first", x.home(0), 2);
        DUE.is("home(1)", x.home(1), 1);
        DUE.is("home(2), of several the first", x.home(2), 1);
        x.set(1, 21);
        DUE.is("home(2)", x.home(2), 2);
        x.lose(2);
        DUE.is("a LOST one", x.home(2), 2);
        DUE.is("it is still LOST", x.of(2, 3), -5);
        x.set(0, 5);
        DUE.is("HOUSE 0", x.home(1), 1);
        x.lose(0);
        DUE.is("HOUSE 0", x.home(1), 0);
        x.find(0, 0);
        DUE.is("home(3)", x.home(3), -1);
        DUE.is("home(-1)", x.home(-1), -1);
        DUE.is("nothing changes", x.of(0, 3), 0);
    }

    private static void shared() {
        DUE.part("promise 16");
        SqueakShop x = apart(10, 30, 4, 20, 4, 10, 4, 99, 4);
        x.lose(3);
        DUE.is("the greatest", x.shared(0), 30);
        DUE.is("all", x.shared(1), 60);
        DUE.is("SOUND 0", x.shared(10), 0);
        DUE.is("SOUND 1", x.shared(11), 1);
        DUE.is("SOUND 2", x.shared(12), 1);
        DUE.is("LOST", x.shared(13), -5);
        for (int what : new int[] {-1, 2, 9, 14, 15, 16, Integer.MIN_VALUE, Integer.MAX_VALUE}) {
            DUE.is("shared(" + what + ")", x.shared(what), -1);
        }
        DUE.is("nothing changes", x.of(0, 3), 4);
        DUE.is("no SOUNDS", new SqueakShop().shared(0), 0);
        DUE.is("no SOUNDS", new SqueakShop().shared(1), 0);
        SqueakShop y = new SqueakShop();
        y.sound(0, 0, 20, 2);
        Due.street(y, "wall 8");
        DUE.is("all together is least: the greatest", y.shared(0), 20);
        DUE.is("all together is least", y.shared(1), 36);
        DUE.is("at the end of the street", y.shared(10), 0);
        SqueakShop z = new SqueakShop();
        z.sound(0, 0, 20, 2);
        Due.street(z, "wall 8;loud 1 h=0");
        DUE.is("but at the one that is stiller", z.shared(10), 4);
    }

    private static void change() {
        DUE.part("promise 17, CHANGE");
        SqueakShop x = apart(10, 30, 0, 20, 0, 10, 1, 5, 1, 1, 2);
        DUE.is("best(0)", x.best(0), 4);
        x.set(0, 20);
        DUE.is("of several the first", x.best(0), 4);
        x.lose(0);
        x.set(3, 25);
        DUE.is("without LOST ones", x.best(0), 34);
        SqueakShop lone = apart(10, 30, 0, 10, 1);
        lone.lose(1);
        DUE.is("not with a LOST one", lone.best(0), -5);
        DUE.is("nothing changes", x.of(1, 3), 0);
        SqueakShop y = apart(10, 30, 0, 20, 1);
        DUE.is("none is less", y.best(0), -5);
        DUE.is("best(2)", y.best(2), -1);
        DUE.is("best(-1)", y.best(-1), -1);
        DUE.is("without SOUNDS", new SqueakShop().best(0), -5);
    }

    private static void worst() {
        DUE.part("promise 17, WORST");
        SqueakShop x = apart(10, 30, 0, 20, 1, 15, 1);
        DUE.is("of several the first", x.best(1), 1);
        x.set(0, 50);
        DUE.is("best(1)", x.best(1), 0);
        x.lose(0);
        DUE.is("a LOST one changes nothing", x.best(1), 1);
        x.lose(1);
        x.lose(2);
        DUE.is("of LOST ones the first", x.best(1), 0);
        DUE.is("nothing changes", x.of(1, 3), -5);
        DUE.is("there are none", new SqueakShop().best(1), -5);
    }

    private static void steps(SqueakShop x, int few, int a, int b, int c) {
        DUE.is("how few", x.fewest(-1), few);
        DUE.is("the 1st", x.fewest(0), a);
        DUE.is("the 2nd", x.fewest(1), b);
        DUE.is("the 3rd", x.fewest(2), c);
    }

    private static void fewest() {
        DUE.part("promise 18");
        steps(apart(20, 20, 0, 20, 1), 0, -5, -5, -5);
        steps(apart(20, 20, 0, 20, 1, 9, 1), 1, 12, -5, -5);
        steps(apart(20, 20, 1, 9, 1), 1, 0, -5, -5);
        steps(apart(20, 20, 0, 20, 0, 20, 0), 3, 1, 2, 11);
        steps(apart(20, 20, 0, 20, 1, 20, 1), 1, 12, -5, -5);
        steps(apart(20, 20, 0, 20, 0, 20, 1), 2, 1, 2, -5);
        steps(apart(19, 20, 0), -5, -5, -5, -5);
        SqueakShop x = apart(20, 20, 0, 20, 0, 9, 0);
        x.lose(1);
        steps(x, 1, 1, -5, -5);
        steps(apart(0), 0, -5, -5, -5);
        steps(apart(0, 0, 3), 0, -5, -5, -5);
        DUE.is("fewest(3)", x.fewest(3), -1);
        DUE.is("fewest(-2)", x.fewest(-2), -1);
        DUE.is("nothing changes", x.of(0, 3), 0);
    }

    private static void seen() {
        DUE.part("promise 19");
        SqueakShop x = new SqueakShop();
        DUE.is("house 5", x.see(5, 0, 0), -1);
        DUE.is("house -2", x.see(-2, 0, 0), -1);
        DUE.is("noise -1", x.see(0, -1, 0), -2);
        DUE.is("noise 1000", x.see(0, 1000, 0), -2);
        DUE.is("n -1", x.see(0, 0, -1), -2);
        DUE.is("n 21", x.see(0, 0, 21), -2);
        DUE.is("NONE ahead of BAD", x.see(5, 1000, 21), -1);
        DUE.is("none came", x.count(2), 0);
        for (int i = 1; i <= 5; i++) {
            DUE.is("one comes", x.see(4, 999, 20), i);
        }
        DUE.is("a 6th", x.see(0, 0, 0), -4);
        DUE.is("BAD ahead of FULL", x.see(0, 0, 21), -2);
        DUE.is("SEEN", x.count(2), 5);
        DUE.is("none then", x.see(-1, -7, 99), 0);
        DUE.is("SEEN", x.count(2), 0);
        DUE.is("one again", x.see(0, 0, 0), 1);
    }

    private static void louds() {
        DUE.part("promise 20");
        SqueakShop x = new SqueakShop();
        x.sound(0, 0, 3, 0);
        x.sound(4, 0, 9, 2);
        DUE.is("nothing SEEN, how many", x.louds(0, 0), 41);
        DUE.is("nothing SEEN, the least", x.louds(0, 1), 0);
        x.see(1, 0, 0);
        DUE.is("0 .. 6, how many", x.louds(0, 0), 7);
        x.see(0, 0, 4);
        DUE.is("0 .. 4, how many", x.louds(0, 0), 5);
        x.see(0, 1, 3);
        DUE.is("4, how many", x.louds(0, 0), 1);
        DUE.is("4, the least", x.louds(0, 1), 4);
        x.see(0, 3, 2);
        DUE.is("none, how many", x.louds(0, 0), 0);
        DUE.is("none, the least", x.louds(0, 1), -5);
        DUE.is("nothing changes", x.of(0, 2), 3);
        DUE.is("nothing changes", x.told(0), 0);
        x.see(-1, 0, 0);
        x.see(2, 20, 20);
        DUE.is("all of 40", x.louds(1, 1), 20);
        x.see(-1, 0, 0);
        x.see(0, 40, 0);
        DUE.is("40 is tried", x.louds(0, 1), 40);
        x.see(-1, 0, 0);
        x.see(0, 41, 0);
        DUE.is("41 is not", x.louds(0, 1), -5);
        x.see(-1, 0, 0);
        x.see(0, 0, 1);
        DUE.is("now is when it is asked", x.louds(0, 0), 2);
        x.years(2);
        DUE.is("now is when it is asked", x.louds(0, 0), 2);
        x.lose(0);
        DUE.is("LOST, all", x.louds(0, 0), 41);
        x.see(2, 8, 0);
        DUE.is("LOST, none", x.louds(0, 0), 0);
        DUE.is("sound 2", x.louds(2, 0), -1);
        DUE.is("sound -1", x.louds(-1, 0), -1);
        DUE.is("what 2", x.louds(0, 2), -1);
        DUE.is("what -1", x.louds(0, -1), -1);
        SqueakShop y = new SqueakShop();
        y.sound(0, 0, 3, 0);
        Due.street(y, "soft 5 l=2");
        y.see(0, 19, 0);
        DUE.is("19 and 24", y.louds(0, 0), 2);
        DUE.is("19", y.louds(0, 1), 19);
    }

    private static void can() {
        DUE.part("promise 21");
        SqueakShop x = new SqueakShop();
        x.sound(5, 2, 20, 4);
        x.sound(0, 2, 0, 4);
        x.years(1);
        DUE.is("nothing SEEN, how many", x.can(0, 0), 10);
        DUE.is("nothing SEEN, the least", x.can(0, 1), 0);
        x.see(0, 7, 0);
        DUE.is("7, how many", x.can(0, 0), 1);
        DUE.is("7, the least", x.can(0, 1), 7);
        DUE.is("v does not matter to SOUND", x.can(1, 0), 0);
        x.see(4, 18, 1);
        DUE.is("none, how many", x.can(0, 0), 0);
        DUE.is("none, the least", x.can(0, 1), -5);
        x.see(-1, 0, 0);
        x.see(0, 9, 0);
        DUE.is("9 is tried", x.can(0, 1), 9);
        x.see(-1, 0, 0);
        x.see(4, 9, 1);
        DUE.is("v does not matter in its own HOUSE", x.can(0, 0), 10);
        Due.street(x, "loud 5 v>6|v=3");
        x.see(-1, 0, 0);
        x.see(4, 24, 0);
        DUE.is("3, 7, 8, 9", x.can(0, 0), 4);
        DUE.is("3", x.can(0, 1), 3);
        DUE.is("nothing changes", x.of(0, 1), 2);
        DUE.is("sound 2", x.can(2, 0), -1);
        DUE.is("sound -1", x.can(-1, 0), -1);
        DUE.is("what 2", x.can(0, 2), -1);
        DUE.is("what -1", x.can(0, -1), -1);
    }

    private static void where() {
        DUE.part("promise 22");
        SqueakShop x = new SqueakShop();
        x.sound(0, 0, 20, 0);
        DUE.is("nothing SEEN", x.where(0), 31);
        x.see(2, 14, 0);
        DUE.is("1 and 3", x.where(0), 10);
        x.see(3, 17, 3);
        DUE.is("3", x.where(0), 8);
        x.lose(0);
        DUE.is("a LOST one", x.where(0), 8);
        DUE.is("it is still LOST", x.of(0, 3), -5);
        x.see(4, 0, 0);
        DUE.is("none", x.where(0), 0);
        DUE.is("sound 1", x.where(1), -1);
        DUE.is("sound -1", x.where(-1), -1);
    }

    private static void odds() {
        DUE.part("promise 23");
        SqueakShop x = apart(10, 6, 0, 6, 0, 1, 1, 11, 2);
        DUE.is("above", x.odds(0, 0), 1);
        DUE.is("below", x.odds(0, 1), 2);
        DUE.is("above", x.odds(1, 0), 1);
        DUE.is("below", x.odds(1, 1), 1);
        DUE.is("above", x.odds(2, 0), 1);
        DUE.is("below", x.odds(2, 1), 4);
        x.set(0, 11);
        x.set(1, 11);
        DUE.is("above, never", x.odds(0, 0), 0);
        DUE.is("below, never", x.odds(0, 1), 1);
        x.set(1, 0);
        DUE.is("above", x.odds(0, 0), 1);
        DUE.is("below", x.odds(0, 1), 4);
        x.lose(3);
        DUE.is("LOST ones count", x.odds(0, 1), 4);
        DUE.is("house 5", x.odds(5, 0), Long.MIN_VALUE);
        DUE.is("house -1", x.odds(-1, 0), Long.MIN_VALUE);
        DUE.is("part 2", x.odds(0, 2), Long.MIN_VALUE);
        DUE.is("part -1", x.odds(0, -1), Long.MIN_VALUE);
        SqueakShop y = apart(10, 20, 0);
        DUE.is("one SOUND", y.odds(0, 0), 1);
        DUE.is("one SOUND", y.odds(0, 1), 1);
        SqueakShop z = apart(10, 10, 0, 5, 1);
        DUE.is("STILL at CALM", z.odds(0, 0), 1);
        DUE.is("STILL at CALM", z.odds(0, 1), 1);
        DUE.is("no SOUNDS", new SqueakShop().odds(0, 0), Long.MIN_VALUE);
        DUE.is("no SOUNDS", new SqueakShop().odds(0, 1), Long.MIN_VALUE);
    }

    private static void mean() {
        DUE.part("promise 24");
        SqueakShop x = new SqueakShop();
        x.sound(0, 0, 20, 0);
        DUE.is("above", x.mean(0, 0), 44);
        DUE.is("below", x.mean(0, 1), 5);
        DUE.is("above, by 1", x.mean(1, 0), 8);
        DUE.is("below, by 1", x.mean(1, 1), 1);
        DUE.is("above, by 60", x.mean(60, 0), 0);
        DUE.is("below, by 60", x.mean(60, 1), 1);
        DUE.is("n -1", x.mean(-1, 0), Long.MIN_VALUE);
        DUE.is("n 61", x.mean(61, 0), Long.MIN_VALUE);
        DUE.is("part 2", x.mean(0, 2), Long.MIN_VALUE);
        DUE.is("part -1", x.mean(0, -1), Long.MIN_VALUE);
        DUE.is("nothing changes", x.told(0), 0);
    }

    private static void plans() {
        DUE.part("promise 25");
        SqueakShop x = new SqueakShop();
        x.sound(0, 0, 20, 0);
        DUE.is("what 4", x.plan(4, 0), -1);
        DUE.is("what -2", x.plan(-2, 0), -1);
        DUE.is("sound 1", x.plan(1, 1), -1);
        DUE.is("sound -1", x.plan(3, -1), -1);
        DUE.is("none came", x.count(3), 0);
        DUE.is("a YEAR of no SOUND", x.plan(0, -9), 1);
        for (int i = 2; i <= 10; i++) {
            DUE.is("one comes", x.plan(i % 4, 0), i);
        }
        DUE.is("an 11th", x.plan(0, 0), -4);
        DUE.is("NONE ahead of FULL", x.plan(1, 1), -1);
        DUE.is("rows", x.count(3), 10);
        DUE.is("empty then", x.plan(-1, 77), 0);
        DUE.is("rows", x.count(3), 0);
        DUE.is("one again", x.plan(2, 0), 1);
    }

    private static void ends() {
        DUE.part("promise 26");
        SqueakShop x = apart(10, 20, 0, 12, 4, 11, 2);
        DUE.is("no rows, the greatest", x.ends(0), 20);
        DUE.is("no rows, STILL", x.ends(1), 2);
        x.plan(0, 0);
        DUE.is("a YEAR, the greatest", x.ends(0), 19);
        DUE.is("a YEAR, STILL", x.ends(1), 3);
        x.plan(3, 0);
        x.plan(2, 1);
        DUE.is("nothing at the ends", x.ends(0), 19);
        x.plan(2, 2);
        x.plan(2, 2);
        DUE.is("behind, twice", x.ends(0), 21);
        x.plan(3, 1);
        DUE.is("ahead", x.ends(0), 19);
        SqueakShop y = apart(10, 20, 1, 5, 0, 5, 3, 20, 4);
        y.plan(3, 0);
        DUE.is("ahead, to HOUSE 0", y.ends(0), 25);
        y.plan(-1, 0);
        y.plan(2, 2);
        DUE.is("behind, to HOUSE 4", y.ends(0), 25);
        x.plan(1, 0);
        DUE.is("LOST", x.ends(0), 11);
        DUE.is("LOST, STILL", x.ends(1), 4);
        x.plan(2, 0);
        x.plan(3, 0);
        x.plan(1, 0);
        DUE.is("nothing more of it", x.ends(0), 11);
        DUE.is("ends(2)", x.ends(2), -1);
        DUE.is("ends(-1)", x.ends(-1), -1);
        DUE.is("nothing changes", x.of(0, 3), 0);
        DUE.is("nothing changes", x.told(0), 0);
    }

    private static void books() {
        DUE.part("promise 27");
        SqueakShop x = new SqueakShop();
        x.sound(0, 0, 20, 3);
        x.sound(0, 0, 20, 1);
        DUE.is("sound 2", x.book(2, 0), -1);
        DUE.is("sound -2", x.book(-2, 0), -1);
        DUE.is("house 6", x.book(0, 6), -1);
        DUE.is("house -1", x.book(0, -1), -1);
        DUE.is("none came", x.count(4), 0);
        DUE.is("none is otherwise", x.looked(), -5);
        DUE.is("the 1st", x.book(0, 3), 1);
        DUE.is("the 2nd", x.book(1, 1), 2);
        DUE.is("the 3rd", x.book(0, 3), 3);
        DUE.part("promise 28");
        DUE.is("none is otherwise", x.looked(), -5);
        x.book(1, 5);
        DUE.is("not LOST", x.looked(), 3);
        x.lose(1);
        DUE.is("LOST", x.looked(), 1);
        x.book(-1, 0);
        x.book(1, 5);
        DUE.is("LOST", x.looked(), -5);
        x.book(0, 2);
        DUE.is("elsewhere", x.looked(), 1);
        x.pass(0, 2);
        DUE.is("there now", x.looked(), -5);
        DUE.part("promise 27");
        for (int i = 3; i <= 8; i++) {
            DUE.is("one comes", x.book(0, 0), i);
        }
        DUE.is("a 9th", x.book(0, 0), -4);
        DUE.is("NONE ahead of FULL", x.book(0, 6), -1);
        DUE.is("rows", x.count(4), 8);
        DUE.is("empty then", x.book(-1, 99), 0);
        DUE.is("rows", x.count(4), 0);
    }
}
