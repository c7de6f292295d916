import java.util.Random;

/** Long runs of calls, drawn by fixed seeds: each answer is to be that of Model. */
public final class RunsTest {
    private static final Due DUE = new Due("RunsTest");
    private static final int RUNS = 240;
    private static final int CALLS = 512;
    private static final int[] FAR_OFF = {Integer.MIN_VALUE, Integer.MAX_VALUE, -1, 5, 6, 7, 100, 1000, -2};
    private final Random random;
    private final SqueakShop shop = new SqueakShop();
    private final Model model = new Model();
    private int kinds = 41;

    private RunsTest(int seed) {
        random = new Random(seed);
    }

    public static void main(String[] args) {
        for (int seed = 0; seed < RUNS && DUE.wrong() < 10; seed++) {
            DUE.part("run " + seed);
            new RunsTest(seed).goes(seed);
        }
        faults();
        for (int seed = 0; seed < 80 && DUE.wrong() < 10; seed++) {
            DUE.part("stiller " + seed);
            new RunsTest(seed).gets();
        }
        DUE.end();
    }

    private void goes(int seed) {
        // some runs leave out the dear calls, so that they ask the others more often
        kinds = seed % 2 == 0 ? 41 : 33;
        if (seed % 3 != 0) {
            for (int i = 0; i < 6; i++) {
                call(0);
            }
        }
        for (int i = 0; i < CALLS - 100 && DUE.wrong() < 10; i++) {
            call(random.nextInt(kinds));
        }
    }

    /** Sounds that are by a few steps stiller than they are, or are not. */
    private void gets() {
        for (int i = 0; i < 3 + random.nextInt(4); i++) {
            int kind = random.nextInt(7);
            int v = random.nextInt(10);
            int loud = 10 + random.nextInt(50);
            int house = random.nextInt(5);
            is("sound", shop.sound(kind, v, loud, house), model.sound(kind, v, loud, house));
        }
        feeds("wall " + (8 + random.nextInt(40)));
        is("years(" + 1 + ")", shop.years(1), model.years(1));
        for (int i = 0; i < 5; i++) {
            int greatest = model.told(4);
            int calm = greatest - random.nextInt(Math.max(1, greatest / 2));
            feeds("wall " + model.told(1) + ";calm " + Math.min(99, calm));
            for (int k = -1; k < 3; k++) {
                is("fewest(" + k + ")", shop.fewest(k), model.fewest(k));
            }
        }
        for (int what : new int[] {0, 1, 10, 11, 12, 13, 14, 15}) {
            is("shared(" + what + ")", shop.shared(what), model.shared(what));
        }
        is("best(0)", shop.best(0), model.best(0));
        is("best(1)", shop.best(1), model.best(1));
    }

    private int draws(int bound) {
        return random.nextInt(40) == 0 ? FAR_OFF[random.nextInt(FAR_OFF.length)] : random.nextInt(bound);
    }

    /** Of 0 .. bound - 1, and of those from 10 and from 20 on. */
    private int drawsWhat(int bound, int second) {
        switch (random.nextInt(3)) {
            case 0: return draws(bound);
            case 1: return 10 + draws(6);
            default: return second + draws(6);
        }
    }

    private void is(String call, long got, long want) {
        DUE.is(call, got, want);
    }

    private void call(int which) {
        if (which < 10) {
            sounds(which);
        } else if (which < 20) {
            told(which);
        } else if (which < 33) {
            rest(which);
        } else {
            asked(which);
        }
    }

    private void sounds(int which) {
        int a = draws(6);
        int b = draws(5);
        int c = draws(10);
        int d = draws(100);
        switch (which) {
            case 0: {
                int kind = draws(7);
                is("sound(" + kind + ", " + c + ", " + d + ", " + b + ")", shop.sound(kind, c, d, b), model.sound(kind, c, d, b));
                break;
            }
            case 1:
            case 2: {
                int what = drawsWhat(5, 20);
                is("of(" + a + ", " + what + ")", shop.of(a, what), model.of(a, what));
                break;
            }
            case 3:
                is("set(" + a + ", " + d + ")", shop.set(a, d), model.set(a, d));
                break;
            case 4:
            case 5:
                is("pass(" + a + ", " + b + ")", shop.pass(a, b), model.pass(a, b));
                break;
            case 6:
                is("lose(" + a + ")", shop.lose(a), model.lose(a));
                break;
            case 7:
            case 8:
                is("find(" + a + ", " + b + ")", shop.find(a, b), model.find(a, b));
                break;
            default:
                int part = draws(4);
                is("row(" + a + ", " + part + ", " + c + ")", shop.row(a, part, c), model.row(a, part, c));
        }
    }

    private void told(int which) {
        switch (which) {
            case 10:
                if (random.nextInt(3) == 0) {
                    street();
                }
                break;
            case 11:
            case 12: {
                int what = drawsWhat(7, 10);
                is("told(" + what + ")", shop.told(what), model.told(what));
                break;
            }
            case 13: {
                int n = random.nextInt(3) > 0 ? random.nextInt(4) : draws(62);
                is("years(" + n + ")", shop.years(n), model.years(n));
                break;
            }
            case 14: {
                int what = draws(5) - 1;
                int sound = draws(6);
                is("plan(" + what + ", " + sound + ")", shop.plan(what, sound), model.plan(what, sound));
                break;
            }
            case 15: {
                int sound = draws(7) - 1;
                int house = draws(6);
                if (sound >= 0 && random.nextBoolean() && model.of(sound, 3) != -1001) {
                    house = Math.floorMod(model.of(sound, 3), 5);
                }
                is("book(" + sound + ", " + house + ")", shop.book(sound, house), model.book(sound, house));
                break;
            }
            case 16:
                is("looked()", shop.looked(), model.looked());
                break;
            case 17: {
                int what = draws(2);
                is("ends(" + what + ")", shop.ends(what), model.ends(what));
                break;
            }
            case 18:
                if (random.nextInt(4) == 0) {
                    is("image()", shop.image(), model.image());
                }
                break;
            default:
                if (random.nextInt(6) == 0) {
                    is("undo()", shop.undo(), model.undo());
                }
        }
    }

    private void rest(int which) {
        int tape = draws(6);
        int other = draws(6);
        int i = draws(8);
        int j = draws(8);
        int n = draws(5);
        long v = random.nextBoolean() ? random.nextInt(100) : random.nextLong() >> random.nextInt(60);
        switch (which) {
            case 20:
            case 21: {
                int size = random.nextInt(4) == 0 ? draws(62) - 1 : 4 + random.nextInt(8);
                int sort = random.nextInt(3) == 0 ? 0 : draws(7) - 1;
                is("tape(" + tape + ", " + sort + ", " + size + ")", shop.tape(tape, sort, size), model.tape(tape, sort, size));
                break;
            }
            case 22:
            case 23:
                is("item(" + tape + ", " + i + ", " + v + ")", shop.item(tape, i, v), model.item(tape, i, v));
                break;
            case 24:
                is("read(" + tape + ", " + i + ")", shop.read(tape, i), model.read(tape, i));
                break;
            case 25:
            case 26:
                is("shift(" + tape + ", " + i + ", " + other + ", " + j + ", " + n + ")",
                    shop.shift(tape, i, other, j, n), model.shift(tape, i, other, j, n));
                break;
            case 27:
                judge(tape, i % 3);
                break;
            case 28: {
                int x = random.nextBoolean() ? random.nextInt(50) : random.nextInt();
                int act = draws(3);
                is("act(" + i + ", " + act + ", " + x + ")", shop.act(i, act, x), model.act(i, act, x));
                for (int k = -1; k < 21; k++) {
                    is("trace(" + k + ")", shop.trace(k), model.trace(k));
                }
                break;
            }
            case 29:
                is("taken(" + i + ", " + j + ")", shop.taken(i, j), model.taken(i, j));
                break;
            case 30:
                is("count(" + i + ")", shop.count(i), model.count(i));
                break;
            case 31: {
                int what = drawsWhat(1, 20);
                int years = draws(62);
                is("on(" + years + ", " + what + ")", shop.on(years, what), model.on(years, what));
                break;
            }
            default:
                see();
        }
    }

    /** Mostly a row that comes true of the LOUDS. */
    private void judge(int tape, int i) {
        if (random.nextBoolean()) {
            for (int s = 0; s < random.nextInt(7); s++) {
                int loud = model.of(s, 2);
                is("item", shop.item(tape, i + s, loud), model.item(tape, i + s, loud));
            }
        }
        is("judge(" + tape + ", " + i + ")", shop.judge(tape, i), model.judge(tape, i));
    }

    /** Mostly what comes true by some LOUD, v or HOUSE. */
    private void see() {
        int house = draws(6) - 1;
        int n = draws(22);
        int noise = draws(1001);
        if (house >= 0 && random.nextInt(4) > 0) {
            n = Math.floorMod(n, 21);
            int on = model.on(n, 10 + house);
            noise = on < 0 ? noise : on + (random.nextInt(5) == 0 ? random.nextInt(3) : 0);
        }
        is("see(" + house + ", " + noise + ", " + n + ")", shop.see(house, noise, n), model.see(house, noise, n));
    }

    private void asked(int which) {
        int a = draws(6);
        int what = draws(2);
        switch (which) {
            case 33: {
                int number = draws(6);
                is("when(" + what + ", " + number + ")", shop.when(what, number), model.when(what, number));
                break;
            }
            case 34:
                is("home(" + a + ")", shop.home(a), model.home(a));
                break;
            case 35:
                if (random.nextInt(4) == 0) {
                    int shared = random.nextBoolean() ? draws(3) : 10 + draws(6);
                    is("shared(" + shared + ")", shop.shared(shared), model.shared(shared));
                }
                break;
            case 36:
                is("best(" + what + ")", shop.best(what), model.best(what));
                break;
            case 37:
                fewest();
                break;
            case 38:
                is("louds(" + a + ", " + what + ")", shop.louds(a, what), model.louds(a, what));
                is("can(" + a + ", " + what + ")", shop.can(a, what), model.can(a, what));
                is("where(" + a + ")", shop.where(a), model.where(a));
                break;
            case 39: {
                int part = draws(2);
                is("odds(" + a + ", " + part + ")", shop.odds(a, part), model.odds(a, part));
                break;
            }
            default:
                int years = draws(62);
                is("mean(" + years + ", " + what + ")", shop.mean(years, what), model.mean(years, what));
        }
    }

    /** By a street that is stiller by a few steps, now and then. */
    private void fewest() {
        if (random.nextInt(3) > 0) {
            return;
        }
        if (random.nextInt(3) == 0 && model.told(4) > 0) {
            int calm = Math.min(99, model.told(4) - random.nextInt(Math.min(12, model.told(4)) + 1));
            feeds("wall 20;calm " + calm);
        }
        for (int k = -2; k < 4; k++) {
            is("fewest(" + k + ")", shop.fewest(k), model.fewest(k));
        }
    }

    private void feeds(String text) {
        for (char sign : text.toCharArray()) {
            is("feed(" + (int) sign + ")", shop.feed(sign), model.feed(sign));
        }
        is("street() of " + text, shop.street(), model.street());
    }

    private void street() {
        int sign = draws(128);
        if (random.nextInt(10) == 0) {
            is("feed(" + sign + ")", shop.feed(sign), model.feed(sign));
        } else {
            feeds(random.nextInt(4) == 0 ? spoilt(drawn(random), random) : drawn(random));
        }
    }

    // ---- texts

    private static String drawn(Random random) {
        StringBuilder text = new StringBuilder();
        int clauses = 1 + random.nextInt(random.nextInt(4) == 0 ? 11 : 5);
        for (int i = 0; i < clauses; i++) {
            text.append(i == 0 ? "" : ";");
            switch (random.nextInt(6)) {
                case 0:
                    text.append("wall ").append(random.nextInt(14));
                    break;
                case 1:
                    text.append("calm ").append(random.nextInt(100));
                    break;
                case 2:
                    text.append("wear ").append(random.nextInt(8));
                    break;
                default:
                    text.append(random.nextInt(3) == 0 ? "soft " : "loud ").append(random.nextInt(25)).append(' ');
                    text.append(any(random, 0));
            }
        }
        return text.length() > 100 && random.nextInt(3) > 0 ? drawn(random) : text.toString();
    }

    private static String any(Random random, int within) {
        StringBuilder text = new StringBuilder();
        int parts = random.nextInt(4) == 0 ? 1 + random.nextInt(3) : 1;
        for (int i = 0; i < parts; i++) {
            text.append(i == 0 ? "" : "|");
            int inner = random.nextInt(4) == 0 ? 1 + random.nextInt(3) : 1;
            for (int j = 0; j < inner; j++) {
                text.append(j == 0 ? "" : "&").append(one(random, within));
            }
        }
        return text.toString();
    }

    private static String one(Random random, int within) {
        int sort = random.nextInt(within < 4 || random.nextInt(9) == 0 ? 5 : 3);
        if (sort == 3) {
            return "!" + one(random, within + 1);
        }
        if (sort == 4) {
            return "(" + any(random, within + 1) + ")";
        }
        return "" + "shkvly".charAt(random.nextInt(6)) + "<=>".charAt(random.nextInt(3))
            + random.nextInt(random.nextInt(5) == 0 ? 100 : 8);
    }

    private static String spoilt(String text, Random random) {
        StringBuilder other = new StringBuilder(text);
        int place = random.nextInt(text.length());
        String signs = "shkvlywacmt 0123456789<=>&|!();\u0000\u007fzA";
        switch (random.nextInt(4)) {
            case 0:
                other.setLength(place);
                break;
            case 1:
                other.deleteCharAt(place);
                break;
            case 2:
                other.insert(place, signs.charAt(random.nextInt(signs.length())));
                break;
            default:
                other.setCharAt(place, signs.charAt(random.nextInt(signs.length())));
        }
        return other.toString();
    }

    /** Texts alone, each on a new object. */
    private static void faults() {
        DUE.part("texts");
        Random random = new Random(4711);
        for (int i = 0; i < 6000 && DUE.wrong() < 10; i++) {
            String text = drawn(random);
            if (i % 3 > 0) {
                text = spoilt(text, random);
            }
            text = text.length() > 100 ? text.substring(0, 100) : text;
            int fault = Model.fault(text);
            DUE.is("street() of " + text, Due.street(new SqueakShop(), text), fault < 0 ? 0 : -10 - fault);
        }
    }
}
