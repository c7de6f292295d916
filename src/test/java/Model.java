import java.util.ArrayList;
import java.util.HashMap;
import java.util.List;
import java.util.Map;
import java.util.regex.Matcher;
import java.util.regex.Pattern;

/**
 * A second way to all that SqueakShop answers: slow, with all of Java. Every way is tried, an E is
 * looked through as text each time, the ACTS are methods of classes, a TAPE is an array of its sort.
 */
final class Model {
    private static final long NO = Long.MIN_VALUE;
    private static final int LOST = -1;

    // ---- the KINDS as classes

    private static List<Integer> trace = new ArrayList<>();

    static class Sound {
        int number;
        int v;
        int loud;
        int house;
        int[] row = new int[4];

        int kind() {
            return 0;
        }

        int heard(int voice, int from, int to, int wall, int year) {
            return Math.max(0, voice - wall * Math.abs(from - to));
        }

        int wears(int wear, int year) {
            return wear;
        }

        int creaks(int x) {
            trace.add(10);
            return x + number;
        }

        int rings(int x) {
            trace.add(11);
            return creaks(x) - v;
        }

        int tells(int x) {
            trace.add(12);
            return rings(x) * 2;
        }
    }

    static class Squeak extends Sound {
        @Override int kind() {
            return 1;
        }

        @Override int wears(int wear, int year) {
            return wear / 2;
        }

        @Override int rings(int x) {
            trace.add(20);
            return super.rings(x) ^ 6;
        }
    }

    static class Drum extends Sound {
        @Override int kind() {
            return 2;
        }

        @Override int heard(int voice, int from, int to, int wall, int year) {
            int plain = super.heard(voice, from, to, wall, year);
            return year % 2 == 1 ? plain : plain / 2;
        }

        @Override int creaks(int x) {
            trace.add(30);
            return super.creaks(x * 3);
        }
    }

    static class Cough extends Sound {
        @Override int kind() {
            return 3;
        }

        @Override int heard(int voice, int from, int to, int wall, int year) {
            return super.heard(voice, from, to, wall / 2, year);
        }

        @Override int tells(int x) {
            trace.add(40);
            return super.tells(x) + rings(1);
        }
    }

    static class Jar extends Squeak {
        @Override int kind() {
            return 4;
        }

        @Override int heard(int voice, int from, int to, int wall, int year) {
            return from == to ? super.heard(voice, from, to, wall, year) : 0;
        }

        @Override int creaks(int x) {
            trace.add(50);
            return -super.creaks(x);
        }

        @Override int rings(int x) {
            trace.add(51);
            return super.rings(x + 1);
        }
    }

    static class Rain extends Drum {
        @Override int kind() {
            return 5;
        }

        @Override int heard(int voice, int from, int to, int wall, int year) {
            return super.heard(voice, from, to, wall, year) + (to < from ? v : 0);
        }

        @Override int tells(int x) {
            trace.add(60);
            return super.tells(x - number);
        }
    }

    static class Told extends Cough {
        @Override int kind() {
            return 6;
        }

        @Override int heard(int voice, int from, int to, int wall, int year) {
            return super.heard(voice, from, to, wall, year) + (to == from ? row[year % 4] : 0);
        }

        @Override int wears(int wear, int year) {
            return year % 2 == 0 ? 0 : wear;
        }

        @Override int rings(int x) {
            trace.add(70);
            return super.rings(x) + super.creaks(2);
        }

        @Override int creaks(int x) {
            trace.add(71);
            return super.creaks(x) ^ v;
        }
    }

    static Sound ofKind(int kind) {
        switch (kind) {
            case 0: return new Sound();
            case 1: return new Squeak();
            case 2: return new Drum();
            case 3: return new Cough();
            case 4: return new Jar();
            case 5: return new Rain();
            default: return new Told();
        }
    }

    private static final Class<?>[] CLASSES = {Sound.class, Squeak.class, Drum.class, Cough.class, Jar.class,
        Rain.class, Told.class};

    // ---- how all is

    static final class State {
        List<Sound> sounds = new ArrayList<>();
        int year;
        String street = "";
        List<int[]> seen = new ArrayList<>();
        List<int[]> plan = new ArrayList<>();
        List<int[]> book = new ArrayList<>();

        State copy() {
            State other = new State();
            for (Sound sound : sounds) {
                Sound same = ofKind(sound.kind());
                same.number = sound.number;
                same.v = sound.v;
                same.loud = sound.loud;
                same.house = sound.house;
                same.row = sound.row.clone();
                other.sounds.add(same);
            }
            other.year = year;
            other.street = street;
            other.seen.addAll(seen);
            other.plan.addAll(plan);
            other.book.addAll(book);
            return other;
        }
    }

    private State now = new State();
    private State kept;
    private String text = "";
    private final List<String> streets = new ArrayList<>();
    private final Object[] tapes = new Object[6];

    Model() {
        trace = new ArrayList<>();
    }

    // ---- STREETS as texts

    private static final String TEST = "[shkvly][<=>][0-9][0-9]?";
    private static final String ANY = any(0);
    private static final String CLAUSE = "(?:(?:wall|calm|wear) [0-9][0-9]?|(?:loud|soft) [0-9][0-9]? " + ANY + ")";
    private static final Pattern STREET = Pattern.compile(CLAUSE + "(?:;" + CLAUSE + "){0,9}");

    private static String any(int within) {
        String one = "(?:" + TEST + (within < 4 ? "|!" + one(within + 1) + "|\\(" + any(within + 1) + "\\)" : "") + ")";
        String all = one + "(?:&" + one + ")*";
        return all + "(?:\\|" + all + ")*";
    }

    private static String one(int within) {
        return "(?:" + TEST + (within < 4 ? "|!" + one(within + 1) + "|\\(" + any(within + 1) + "\\)" : "") + ")";
    }

    private static boolean begins(String start) {
        Matcher matcher = STREET.matcher(start);
        return matcher.matches() || matcher.hitEnd();
    }

    /** The FAULT of a text, -1: it is a STREET. */
    static int fault(String text) {
        for (int place = 0; place < text.length(); place++) {
            if (!begins(text.substring(0, place + 1))) {
                return place;
            }
        }
        return STREET.matcher(text).matches() ? -1 : text.length();
    }

    private static int lastOf(String street, String word, int without) {
        int n = without;
        for (String clause : street.split(";")) {
            if (clause.startsWith(word)) {
                n = Integer.parseInt(clause.split(" ")[1]);
            }
        }
        return n;
    }

    private static int wall(State state) {
        return lastOf(state.street, "wall", 6);
    }

    private static int calm(State state) {
        return lastOf(state.street, "calm", 10);
    }

    private static int wear(State state) {
        return lastOf(state.street, "wear", 1);
    }

    /** The place of a sign that stands within no ( of this text, from the right; -1: none. */
    private static int outside(String e, char sign) {
        int open = 0;
        for (int i = e.length() - 1; i >= 0; i--) {
            char c = e.charAt(i);
            open += c == ')' ? 1 : c == '(' ? -1 : 0;
            if (c == sign && open == 0) {
                return i;
            }
        }
        return -1;
    }

    private static boolean holds(String e, Map<Character, Integer> letters) {
        int or = outside(e, '|');
        if (or >= 0) {
            return holds(e.substring(0, or), letters) | holds(e.substring(or + 1), letters);
        }
        int and = outside(e, '&');
        if (and >= 0) {
            return holds(e.substring(0, and), letters) & holds(e.substring(and + 1), letters);
        }
        if (e.charAt(0) == '!') {
            return !holds(e.substring(1), letters);
        }
        if (e.charAt(0) == '(') {
            return holds(e.substring(1, e.length() - 1), letters);
        }
        int value = letters.get(e.charAt(0));
        int number = Integer.parseInt(e.substring(2));
        switch (e.charAt(1)) {
            case '<': return value < number;
            case '>': return value > number;
            default: return value == number;
        }
    }

    private final Map<String, Integer> voices = new HashMap<>();

    /** VOICE of a SOUND, were it in that HOUSE. */
    private int voice(State state, Sound sound, int house) {
        if (sound.loud == 0) {
            return 0;
        }
        Map<Character, Integer> letters = Map.of('s', sound.number, 'h', house, 'k', sound.kind(), 'v', sound.v,
            'l', sound.loud / 10, 'y', state.year % 10);
        String key = state.street + letters.get('s') + house + letters.get('k') + sound.v + letters.get('y') + ":" + sound.loud;
        Integer known = voices.get(key);
        if (known != null) {
            return known;
        }
        int all = sound.loud;
        for (String clause : state.street.split(";")) {
            String[] parts = clause.split(" ");
            if (parts.length == 3 && holds(parts[2], letters)) {
                all += Integer.parseInt(parts[1]) * (parts[0].equals("loud") ? 1 : -1);
            }
        }
        voices.put(key, Math.max(0, all));
        return Math.max(0, all);
    }

    private int heard(State state, Sound sound, int there) {
        if (sound.house == LOST) {
            return 0;
        }
        return sound.heard(voice(state, sound, sound.house), sound.house, there, wall(state), state.year);
    }

    private int noise(State state, int there) {
        int all = 0;
        for (Sound sound : state.sounds) {
            all += heard(state, sound, there);
        }
        return all;
    }

    private int greatest(State state) {
        int most = 0;
        for (int there = 0; there < 5; there++) {
            most = Math.max(most, noise(state, there));
        }
        return most;
    }

    private int together(State state) {
        int all = 0;
        for (int there = 0; there < 5; there++) {
            all += noise(state, there);
        }
        return all;
    }

    private boolean isStill(State state, int there) {
        return noise(state, there) <= calm(state);
    }

    private int still(State state) {
        int bits = 0;
        for (int there = 0; there < 5; there++) {
            bits += isStill(state, there) ? 1 << there : 0;
        }
        return bits;
    }

    private State behind(State from, int n) {
        State state = from.copy();
        for (int i = 0; i < n; i++) {
            for (Sound sound : state.sounds) {
                if (sound.house != LOST) {
                    sound.loud = Math.max(0, sound.loud - sound.wears(wear(state), state.year));
                }
            }
            state.year++;
        }
        return state;
    }

    private boolean has(int sound) {
        return sound >= 0 && sound < now.sounds.size();
    }

    private static boolean house(int house) {
        return house >= 0 && house < 5;
    }

    // ---- the calls

    int sound(int kind, int v, int loud, int house) {
        if (kind < 0 || kind > 6 || !house(house)) {
            return -1;
        }
        if (v < 0 || v > 9 || loud < 0 || loud > 99) {
            return -2;
        }
        if (now.sounds.size() == 6) {
            return -4;
        }
        Sound sound = ofKind(kind);
        sound.number = now.sounds.size();
        sound.v = v;
        sound.loud = loud;
        sound.house = house;
        now.sounds.add(sound);
        return sound.number;
    }

    int of(int number, int what) {
        if (!has(number)) {
            return -1001;
        }
        Sound sound = now.sounds.get(number);
        if (what >= 10 && what <= 14) {
            return sound.house == LOST ? 0 : voice(now, sound, what - 10);
        }
        if (what >= 20 && what <= 24) {
            return heard(now, sound, what - 20);
        }
        int[] all = {sound.kind(), sound.v, sound.loud, sound.house == LOST ? -5 : sound.house,
            sound.wears(wear(now), now.year)};
        return what >= 0 && what < 5 ? all[what] : -1001;
    }

    int set(int number, int n) {
        if (!has(number)) {
            return -1;
        }
        if (n < 0 || n > 99) {
            return -2;
        }
        int before = now.sounds.get(number).loud;
        now.sounds.get(number).loud = n;
        return before;
    }

    int pass(int number, int house) {
        if (!has(number) || !house(house)) {
            return -1;
        }
        Sound sound = now.sounds.get(number);
        if (sound.house == LOST || sound.house - house != 1 && house - sound.house != 1) {
            return -3;
        }
        sound.house = house;
        return noise(now, house);
    }

    int lose(int number) {
        if (!has(number)) {
            return -1;
        }
        int before = now.sounds.get(number).house;
        now.sounds.get(number).house = LOST;
        return before == LOST ? -3 : before;
    }

    int find(int number, int house) {
        if (!has(number) || !house(house)) {
            return -1;
        }
        if (now.sounds.get(number).house != LOST) {
            return -3;
        }
        now.sounds.get(number).house = house;
        return noise(now, house);
    }

    int row(int number, int part, int n) {
        if (!has(number) || part < 0 || part > 3) {
            return -1;
        }
        if (n < 0 || n > 9) {
            return -2;
        }
        if (!(now.sounds.get(number) instanceof Told)) {
            return -3;
        }
        int before = now.sounds.get(number).row[part];
        now.sounds.get(number).row[part] = n;
        return before;
    }

    int feed(int sign) {
        if (sign < 0 || sign > 127) {
            return -2;
        }
        if (text.length() == 100) {
            return -4;
        }
        text += (char) sign;
        return text.length();
    }

    int street() {
        if (streets.size() == 6) {
            return -4;
        }
        String read = text;
        text = "";
        int fault = fault(read);
        if (fault >= 0) {
            return -10 - fault;
        }
        streets.add(read);
        now.street = read;
        return streets.size() - 1;
    }

    int told(int what) {
        if (what >= 10 && what <= 14) {
            return noise(now, what - 10);
        }
        switch (what) {
            case 0: return now.year;
            case 1: return wall(now);
            case 2: return calm(now);
            case 3: return wear(now);
            case 4: return greatest(now);
            case 5: return still(now);
            default: return -1;
        }
    }

    int years(int n) {
        if (n < 0 || n > 60) {
            return -2;
        }
        if (now.year + n > 9999) {
            return -3;
        }
        now = behind(now, n);
        return now.year;
    }

    int on(int n, int what) {
        if (what != 0 && (what < 10 || what > 14) && (what < 20 || !has(what - 20))) {
            return -1;
        }
        if (n < 0 || n > 60) {
            return -2;
        }
        State then = behind(now, n);
        return what == 0 ? greatest(then) : what < 20 ? noise(then, what - 10) : then.sounds.get(what - 20).loud;
    }

    int when(int what, int number) {
        if (what != 0 && what != 1 || what == 0 && !house(number) || what == 1 && !has(number)) {
            return -1;
        }
        for (int n = 0; n <= 60; n++) {
            State then = behind(now, n);
            if (what == 0 ? isStill(then, number)
                    : then.sounds.get(number).loud == 0 && then.sounds.get(number).house != LOST) {
                return n;
            }
        }
        return -5;
    }

    int home(int number) {
        if (!has(number)) {
            return -1;
        }
        int best = -1;
        int least = Integer.MAX_VALUE;
        for (int there = 0; there < 5; there++) {
            State other = now.copy();
            other.sounds.get(number).house = there;
            if (greatest(other) < least) {
                least = greatest(other);
                best = there;
            }
        }
        return best;
    }

    /** Of all ways, as numbers with 5 as base, the best one's greatest, all together, HOUSES. */
    int shared(int what) {
        int number = what - 10;
        if (what != 0 && what != 1 && (what < 10 || !has(number))) {
            return -1;
        }
        List<Sound> about = new ArrayList<>();
        State other = now.copy();
        for (Sound sound : other.sounds) {
            if (sound.house != LOST) {
                about.add(sound);
            }
        }
        int ways = 1;
        for (int i = 0; i < about.size(); i++) {
            ways *= 5;
        }
        int[] best = null;
        for (int way = 0; way < ways; way++) {
            int rest = way;
            for (int i = about.size() - 1; i >= 0; i--) {
                about.get(i).house = rest % 5;
                rest /= 5;
            }
            int[] noise = new int[5];
            int wall = wall(other);
            for (Sound sound : about) {
                int voice = voice(other, sound, sound.house);
                for (int there = 0; there < 5; there++) {
                    noise[there] += sound.heard(voice, sound.house, there, wall, other.year);
                }
            }
            int most = 0;
            int all = 0;
            for (int n : noise) {
                most = Math.max(most, n);
                all += n;
            }
            if (best == null || most < best[0] || most == best[0] && all < best[1]) {
                best = new int[] {most, all, way};
            }
        }
        if (what < 2) {
            return best[what];
        }
        if (now.sounds.get(number).house == LOST) {
            return -5;
        }
        int rest = best[2];
        for (int i = about.size() - 1; about.get(i).number != number; i--) {
            rest /= 5;
        }
        return rest % 5;
    }

    int best(int what) {
        int best = -5;
        int least = what == 0 ? greatest(now) : Integer.MAX_VALUE;
        if (what == 0) {
            for (Sound a : now.sounds) {
                for (Sound b : now.sounds) {
                    if (a.number < b.number && a.house != LOST && b.house != LOST) {
                        State other = now.copy();
                        other.sounds.get(a.number).house = b.house;
                        other.sounds.get(b.number).house = a.house;
                        if (greatest(other) < least) {
                            least = greatest(other);
                            best = 10 * a.number + b.number;
                        }
                    }
                }
            }
            return best;
        }
        if (what != 1) {
            return -1;
        }
        for (Sound a : now.sounds) {
            State other = now.copy();
            other.sounds.get(a.number).house = LOST;
            if (greatest(other) < least) {
                least = greatest(other);
                best = a.number;
            }
        }
        return best;
    }

    int fewest(int k) {
        if (k < -1 || k > 2) {
            return -1;
        }
        List<State> states = new ArrayList<>(List.of(now));
        List<List<Integer>> rows = new ArrayList<>(List.of(List.of()));
        for (int few = 0; few <= 3; few++) {
            List<State> nextStates = new ArrayList<>();
            List<List<Integer>> nextRows = new ArrayList<>();
            for (int i = 0; i < states.size(); i++) {
                if (still(states.get(i)) == 31) {
                    return k == -1 ? few : k < few ? rows.get(i).get(k) : -5;
                }
                for (int step = 0; step < 60 && few < 3; step++) {
                    int number = step / 10;
                    if (has(number) && house(step % 10)) {
                        int from = states.get(i).sounds.get(number).house;
                        if (from != LOST && Math.abs(from - step % 10) == 1) {
                            State other = states.get(i).copy();
                            other.sounds.get(number).house = step % 10;
                            nextStates.add(other);
                            List<Integer> row = new ArrayList<>(rows.get(i));
                            row.add(step);
                            nextRows.add(row);
                        }
                    }
                }
            }
            states = nextStates;
            rows = nextRows;
        }
        return -5;
    }

    private static int told(List<int[]> rows, int most, int... row) {
        if (rows.size() == most) {
            return -4;
        }
        rows.add(row);
        return rows.size();
    }

    int see(int house, int noise, int n) {
        if (house == -1) {
            now.seen.clear();
            return 0;
        }
        if (!house(house)) {
            return -1;
        }
        return noise < 0 || noise > 999 || n < 0 || n > 20 ? -2 : told(now.seen, 5, house, noise, n);
    }

    private boolean isAsSeen(State other) {
        for (int[] seen : now.seen) {
            if (noise(behind(other, seen[2]), seen[0]) != seen[1]) {
                return false;
            }
        }
        return true;
    }

    int louds(int number, int what) {
        return fitting(number, what, true);
    }

    int can(int number, int what) {
        return fitting(number, what, false);
    }

    private int fitting(int number, int what, boolean loud) {
        if (!has(number) || what < 0 || what > 1) {
            return -1;
        }
        List<Integer> fit = new ArrayList<>();
        for (int n = 0; n <= (loud ? 40 : 9); n++) {
            State other = now.copy();
            if (loud) {
                other.sounds.get(number).loud = n;
            } else {
                other.sounds.get(number).v = n;
            }
            if (isAsSeen(other)) {
                fit.add(n);
            }
        }
        return what == 0 ? fit.size() : fit.isEmpty() ? -5 : fit.get(0);
    }

    int where(int number) {
        if (!has(number)) {
            return -1;
        }
        int bits = 0;
        for (int there = 0; there < 5; there++) {
            State other = now.copy();
            other.sounds.get(number).house = there;
            bits += isAsSeen(other) ? 1 << there : 0;
        }
        return bits;
    }

    private static long fraction(int above, int below, int part) {
        for (int by = below; by > 1; by--) {
            if (above % by == 0 && below % by == 0) {
                return fraction(above / by, below / by, part);
            }
        }
        return part == 0 ? above : part == 1 ? below : NO;
    }

    long odds(int house, int part) {
        if (!house(house) || now.sounds.isEmpty()) {
            return NO;
        }
        int many = 0;
        for (Sound sound : now.sounds) {
            State other = now.copy();
            other.sounds.get(sound.number).house = LOST;
            many += isStill(other, house) ? 1 : 0;
        }
        return fraction(many, now.sounds.size(), part);
    }

    long mean(int n, int part) {
        return n < 0 || n > 60 ? NO : fraction(together(behind(now, n)), 5, part);
    }

    int plan(int what, int sound) {
        if (what == -1) {
            now.plan.clear();
            return 0;
        }
        return what < 0 || what > 3 || what > 0 && !has(sound) ? -1 : told(now.plan, 10, what, sound);
    }

    int ends(int what) {
        State state = now.copy();
        for (int[] row : now.plan) {
            if (row[0] == 0) {
                state = behind(state, 1);
                continue;
            }
            Sound sound = state.sounds.get(row[1]);
            if (sound.house != LOST) {
                int there = row[0] == 2 ? Math.min(4, sound.house + 1) : Math.max(0, sound.house - 1);
                sound.house = row[0] == 1 ? LOST : there;
            }
        }
        return what == 0 ? greatest(state) : what == 1 ? Integer.bitCount(still(state)) : -1;
    }

    int book(int sound, int house) {
        if (sound == -1) {
            now.book.clear();
            return 0;
        }
        return !has(sound) || house < 0 || house > 5 ? -1 : told(now.book, 8, sound, house);
    }

    int looked() {
        for (int[] row : now.book) {
            if (now.sounds.get(row[0]).house != (row[1] == 5 ? LOST : row[1])) {
                return now.book.indexOf(row);
            }
        }
        return -5;
    }

    int judge(int tape, int i) {
        if (tape < 0 || tape > 5) {
            return -1;
        }
        if (tapes[tape] != null && !(tapes[tape] instanceof byte[])) {
            return -12;
        }
        byte[] row = tapes[tape] == null ? new byte[0] : (byte[]) tapes[tape];
        for (Sound sound : now.sounds) {
            long place = (long) i + sound.number;
            if (i < 0 || place >= row.length) {
                return 100 + sound.number;
            }
            if (row[(int) place] != sound.loud) {
                return sound.number;
            }
        }
        return -5;
    }

    int image() {
        kept = now.copy();
        return now.sounds.size();
    }

    int undo() {
        if (kept == null) {
            return -3;
        }
        now = kept.copy();
        return now.sounds.size();
    }

    int act(int sound, int act, int x) {
        trace.clear();
        if (!has(sound) || act < 0 || act > 2) {
            return 0;
        }
        Sound actor = now.sounds.get(sound);
        return act == 0 ? actor.creaks(x) : act == 1 ? actor.rings(x) : actor.tells(x);
    }

    int trace(int i) {
        return i >= 0 && i < Math.min(20, trace.size()) ? trace.get(i) : -1;
    }

    int taken(int sound, int k) {
        if (k < 0 || k > 6) {
            return -2;
        }
        if (!has(sound)) {
            return -11;
        }
        return CLASSES[k].isInstance(now.sounds.get(sound)) ? now.sounds.get(sound).kind() : -12;
    }

    int count(int what) {
        int[] all = {now.sounds.size(), streets.size(), now.seen.size(), now.plan.size(), now.book.size(),
            text.length(), trace.size()};
        return what >= 0 && what < 7 ? all[what] : -2;
    }

    int tape(int tape, int sort, int n) {
        if (tape < 0 || tape > 5) {
            return -1;
        }
        if (sort == -1) {
            tapes[tape] = null;
            return 1;
        }
        if (sort < -1 || sort > 4 || n > 60) {
            return -2;
        }
        if (n < 0) {
            return -14;
        }
        Class<?>[] sorts = {byte.class, short.class, int.class, long.class, boolean.class};
        tapes[tape] = java.lang.reflect.Array.newInstance(sorts[sort], n);
        return 1;
    }

    int item(int tape, int i, long v) {
        if (tape < 0 || tape > 5) {
            return -1;
        }
        Object row = tapes[tape];
        if (row == null) {
            return -11;
        }
        if (i < 0 || i >= java.lang.reflect.Array.getLength(row)) {
            return -13;
        }
        if (row instanceof byte[]) {
            ((byte[]) row)[i] = (byte) v;
        } else if (row instanceof short[]) {
            ((short[]) row)[i] = (short) v;
        } else if (row instanceof int[]) {
            ((int[]) row)[i] = (int) v;
        } else if (row instanceof long[]) {
            ((long[]) row)[i] = v;
        } else {
            ((boolean[]) row)[i] = v != 0;
        }
        return 1;
    }

    long read(int tape, int i) {
        if (tape < 0 || tape > 5 || tapes[tape] == null || i < 0 || i >= java.lang.reflect.Array.getLength(tapes[tape])) {
            return NO;
        }
        Object row = tapes[tape];
        return row instanceof boolean[] ? ((boolean[]) row)[i] ? 1 : 0 : java.lang.reflect.Array.getLong(row, i);
    }

    int shift(int tape, int i, int other, int j, int n) {
        if (tape < 0 || tape > 5 || other < 0 || other > 5) {
            return -1;
        }
        try {
            System.arraycopy(tapes[tape], i, tapes[other], j, n);
            return n;
        } catch (NullPointerException nothing) {
            return -11;
        } catch (ArrayStoreException cast) {
            return -12;
        } catch (IndexOutOfBoundsException place) {
            return -13;
        }
    }
}
