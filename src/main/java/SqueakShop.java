/**
 * Sounds in a street of five houses: how loud each is, where it is heard through the walls, and how
 * all that wears by years. DOC.md says by numbered promises what each method answers; README.md
 * says how this file is laid out.
 */
public final class SqueakShop {
    public static final int NONE = -1, BAD = -2, STATE = -3, FULL = -4;
    public static final long NO = Long.MIN_VALUE;

    /** There is none, by that which was asked. */
    private static final int LACKING = -5;
    private static final int NOTHING = -11, CAST = -12, PLACE = -13, SIZE = -14;
    private static final int OF_NONE = -1001;
    private static final int BEFORE_FAULTS = -10, JUDGED_SHORT = 100;

    private static final int SOUND = 0, SQUEAK = 1, DRUM = 2, COUGH = 3, JAR = 4, RAIN = 5, TOLD = 6;
    /** The next KIND above each; above SOUND is none. */
    private static final int[] ABOVE = {-1, SOUND, SOUND, SOUND, SQUEAK, DRUM, COUGH};

    private static final int HOUSES = 5, SOUNDS = 6, KINDS = 7, PARTS = 4;
    /** Stands for the HOUSE of a SOUND that is LOST. */
    private static final int LOST = -1;
    /** Stands for LOST in the BOOK. */
    private static final int BOOKED_LOST = HOUSES;
    private static final int TOP_V = 9, TOP_LOUD = 99, TOP_YEAR = 9999, TOP_YEARS = 60;
    private static final int TOP_NOISE_SEEN = 999, TOP_YEARS_SEEN = 20, TOP_LOUD_TRIED = 40;
    /** NOISE stays below it: six SOUNDS, each with ten CLAUSES of 99 at most. */
    private static final int ABOVE_ALL_NOISE = 1000000;
    private static final int MOST_SEEN = 5, MOST_PLAN = 10, MOST_BOOK = 8, MOST_STEPS = 3;
    private static final int MOST_STREETS = 6, MOST_TEXT = 100, MOST_CLAUSES = 10, MOST_NESTED = 4;
    private static final int TAPES = 6, MOST_ITEMS = 60, MOST_TRACE = 20;
    private static final int NO_SORT = -1, BYTES = 0, SHORTS = 1, INTS = 2, LONGS = 3, BOOLEANS = 4;
    private static final int GO_YEAR = 0, GO_LOST = 1, GO_BEHIND = 2, GO_AHEAD = 3;

    private final Lot now;
    private final Lot kept;
    /** What is asked is played on this copy, so that nothing changes. */
    private final Lot asked;
    private boolean hasImage;
    private final Text text = new Text();
    private final Street[] streets = new Street[MOST_STREETS];
    private int streetsMade;
    private final Ways ways = new Ways();
    private final Acts acts = new Acts();
    private final Tape[] tapes = new Tape[TAPES];

    public SqueakShop() {
        Street bare = new Street();
        now = new Lot(bare);
        kept = new Lot(bare);
        asked = new Lot(bare);
        for (int i = 0; i < MOST_STREETS; i++) {
            streets[i] = new Street();
        }
        for (int i = 0; i < TAPES; i++) {
            tapes[i] = new Tape();
        }
    }

    // ---- sounds, streets

    public int sound(int kind, int v, int loud, int house) {
        if (!isIn(kind, KINDS - 1) || !isHouse(house)) {
            return NONE;
        }
        if (!isIn(v, TOP_V) || !isIn(loud, TOP_LOUD)) {
            return BAD;
        }
        return now.sounds >= SOUNDS ? FULL : now.come(kind, v, loud, house);
    }

    public int of(int sound, int what) {
        if (!now.has(sound)) {
            return OF_NONE;
        }
        if (isHouse(what - 10)) {
            return now.isLost(sound) ? 0 : now.voiceIn(sound, what - 10);
        }
        if (isHouse(what - 20)) {
            return now.heardIn(sound, what - 20);
        }
        switch (what) {
            case 0: return now.kind[sound];
            case 1: return now.v[sound];
            case 2: return now.loud[sound];
            case 3: return now.isLost(sound) ? LACKING : now.house[sound];
            case 4: return now.wears(sound);
            default: return OF_NONE;
        }
    }

    public int set(int sound, int n) {
        if (!now.has(sound)) {
            return NONE;
        }
        if (!isIn(n, TOP_LOUD)) {
            return BAD;
        }
        int before = now.loud[sound];
        now.loud[sound] = n;
        return before;
    }

    public int pass(int sound, int house) {
        if (!now.has(sound) || !isHouse(house)) {
            return NONE;
        }
        if (now.isLost(sound) || Math.abs(now.house[sound] - house) != 1) {
            return STATE;
        }
        now.house[sound] = house;
        return now.noiseOf(house);
    }

    public int lose(int sound) {
        if (!now.has(sound)) {
            return NONE;
        }
        if (now.isLost(sound)) {
            return STATE;
        }
        int before = now.house[sound];
        now.house[sound] = LOST;
        return before;
    }

    public int find(int sound, int house) {
        if (!now.has(sound) || !isHouse(house)) {
            return NONE;
        }
        if (!now.isLost(sound)) {
            return STATE;
        }
        now.house[sound] = house;
        return now.noiseOf(house);
    }

    public int row(int sound, int part, int n) {
        if (!now.has(sound) || !isIn(part, PARTS - 1)) {
            return NONE;
        }
        if (!isIn(n, TOP_V)) {
            return BAD;
        }
        if (now.kind[sound] != TOLD) {
            return STATE;
        }
        int place = sound * PARTS + part;
        int before = now.more[place];
        now.more[place] = n;
        return before;
    }

    public int feed(int sign) {
        if (!isIn(sign, 127)) {
            return BAD;
        }
        return text.length >= MOST_TEXT ? FULL : text.grow((byte) sign);
    }

    public int street() {
        if (streetsMade >= MOST_STREETS) {
            return FULL;
        }
        Street made = streets[streetsMade];
        boolean good = text.makes(made);
        text.length = 0;
        if (!good) {
            return BEFORE_FAULTS - text.at;
        }
        now.street = made;
        streetsMade++;
        return streetsMade - 1;
    }

    public int told(int what) {
        if (isHouse(what - 10)) {
            return now.noiseOf(what - 10);
        }
        switch (what) {
            case 0: return now.year;
            case 1: return now.street.wall;
            case 2: return now.street.calm;
            case 3: return now.street.wear;
            case 4: return now.greatest();
            case 5: return now.stillHouses();
            default: return NONE;
        }
    }

    // ---- years

    public int years(int n) {
        if (!isIn(n, TOP_YEARS)) {
            return BAD;
        }
        if (now.year + n > TOP_YEAR) {
            return STATE;
        }
        now.goYears(n);
        return now.year;
    }

    public int on(int n, int what) {
        boolean ofHouse = isHouse(what - 10);
        boolean ofSound = what >= 20 && now.has(what - 20);
        if (what != 0 && !ofHouse && !ofSound) {
            return NONE;
        }
        if (!isIn(n, TOP_YEARS)) {
            return BAD;
        }
        asked.takeSounds(now);
        asked.goYears(n);
        if (ofHouse) {
            return asked.noiseOf(what - 10);
        }
        return ofSound ? asked.loud[what - 20] : asked.greatest();
    }

    public int when(int what, int number) {
        if (what == 0 && isHouse(number)) {
            return stillBy(number);
        }
        if (what == 1 && now.has(number)) {
            return now.isLost(number) ? LACKING : silentBy(number);
        }
        return NONE;
    }

    private int stillBy(int house) {
        asked.takeSounds(now);
        for (int n = 0; n <= TOP_YEARS; n++) {
            if (asked.noiseOf(house) <= asked.street.calm) {
                return n;
            }
            asked.goYears(1);
        }
        return LACKING;
    }

    private int silentBy(int sound) {
        asked.takeSounds(now);
        for (int n = 0; n <= TOP_YEARS; n++) {
            if (asked.loud[sound] == 0) {
                return n;
            }
            asked.goYears(1);
        }
        return LACKING;
    }

    // ---- where all had better be

    public int home(int sound) {
        if (!now.has(sound)) {
            return NONE;
        }
        ways.take(now);
        return ways.calmestHouse(sound);
    }

    public int shared(int what) {
        int sound = what - 10;
        boolean ofSound = what >= 10 && now.has(sound);
        if (what != 0 && what != 1 && !ofSound) {
            return NONE;
        }
        if (ofSound && now.isLost(sound)) {
            return LACKING;
        }
        ways.take(now);
        ways.shareOut();
        if (ofSound) {
            return ways.bestHouse[sound];
        }
        return what == 0 ? ways.bestGreatest : ways.bestTotal;
    }

    public int best(int what) {
        if (what != 0 && what != 1) {
            return NONE;
        }
        ways.take(now);
        return what == 0 ? ways.bestSwap() : ways.worstSound();
    }

    public int fewest(int k) {
        if (k < -1 || k >= MOST_STEPS) {
            return NONE;
        }
        ways.take(now);
        int few = ways.fewestSteps();
        if (k == -1) {
            return few;
        }
        return k < few ? ways.steps[k] : LACKING;
    }

    // ---- seen, odds

    public int see(int house, int noise, int n) {
        if (house == -1) {
            return now.seen.empty();
        }
        if (!isHouse(house)) {
            return NONE;
        }
        if (!isIn(noise, TOP_NOISE_SEEN) || !isIn(n, TOP_YEARS_SEEN)) {
            return BAD;
        }
        return now.seen.isFull() ? FULL : now.seen.add(house, noise, n);
    }

    public int louds(int sound, int what) {
        return fitting(asked.loud, TOP_LOUD_TRIED, sound, what);
    }

    public int can(int sound, int what) {
        return fitting(asked.v, TOP_V, sound, what);
    }

    /** Of the numbers 0 .. top that a SOUND might have in a row of asked's: how many fit, or the least. */
    private int fitting(int[] row, int top, int sound, int what) {
        if (!now.has(sound) || what != 0 && what != 1) {
            return NONE;
        }
        int many = 0;
        int least = LACKING;
        for (int tried = top; tried >= 0; tried--) {
            asked.takeSounds(now);
            row[sound] = tried;
            if (isAsSeen()) {
                many++;
                least = tried;
            }
        }
        return what == 0 ? many : least;
    }

    public int where(int sound) {
        if (!now.has(sound)) {
            return NONE;
        }
        int bits = 0;
        for (int house = 0; house < HOUSES; house++) {
            asked.takeSounds(now);
            asked.house[sound] = house;
            if (isAsSeen()) {
                bits |= 1 << house;
            }
        }
        return bits;
    }

    /** Whether all of SEEN comes true from how asked is; its YEARS go by that. */
    private boolean isAsSeen() {
        Rows seen = now.seen;
        int met = 0;
        for (int n = 0; n <= TOP_YEARS_SEEN && met < seen.count; n++) {
            for (int i = 0; i < seen.count; i++) {
                if (seen.third[i] == n) {
                    if (asked.noiseOf(seen.first[i]) != seen.second[i]) {
                        return false;
                    }
                    met++;
                }
            }
            asked.goYears(1);
        }
        return true;
    }

    public long odds(int house, int part) {
        if (!isHouse(house) || now.sounds == 0) {
            return NO;
        }
        ways.take(now);
        return ofFraction(ways.stillWithoutOne(house), now.sounds, part);
    }

    public long mean(int n, int part) {
        if (!isIn(n, TOP_YEARS)) {
            return NO;
        }
        asked.takeSounds(now);
        asked.goYears(n);
        int together = 0;
        for (int house = 0; house < HOUSES; house++) {
            together += asked.noiseOf(house);
        }
        return ofFraction(together, HOUSES, part);
    }

    /** What stands above (part 0) or below (1) the line in lowest terms. */
    private static long ofFraction(int above, int below, int part) {
        int common = commonDivisor(above, below);
        if (common < 1 || part != 0 && part != 1) {
            return NO;
        }
        return (part == 0 ? above : below) / common;
    }

    /** Tried one by one: below the line are five (HOUSES) or six (SOUNDS) at most. */
    private static int commonDivisor(int above, int below) {
        int common = 1;
        for (int n = 2; n <= below; n++) {
            if (above % n == 0 && below % n == 0) {
                common = n;
            }
        }
        return common;
    }

    // ---- plans, books

    public int plan(int what, int sound) {
        if (what == -1) {
            return now.plan.empty();
        }
        if (!isIn(what, GO_AHEAD) || what != GO_YEAR && !now.has(sound)) {
            return NONE;
        }
        return now.plan.isFull() ? FULL : now.plan.add(what, sound, 0);
    }

    public int ends(int what) {
        if (what != 0 && what != 1) {
            return NONE;
        }
        asked.takeSounds(now);
        for (int i = 0; i < now.plan.count; i++) {
            asked.go(now.plan.first[i], now.plan.second[i]);
        }
        return what == 0 ? asked.greatest() : Integer.bitCount(asked.stillHouses());
    }

    public int book(int sound, int house) {
        if (sound == -1) {
            return now.book.empty();
        }
        if (!now.has(sound) || !isIn(house, BOOKED_LOST)) {
            return NONE;
        }
        return now.book.isFull() ? FULL : now.book.add(sound, house, 0);
    }

    public int looked() {
        for (int i = 0; i < now.book.count; i++) {
            int house = now.house[now.book.first[i]];
            if (now.book.second[i] != (house == LOST ? BOOKED_LOST : house)) {
                return i;
            }
        }
        return LACKING;
    }

    // ---- judging, the image, acts, tapes

    public int judge(int tape, int i) {
        if (!isTape(tape)) {
            return NONE;
        }
        Tape told = tapes[tape];
        if (told.sort != NO_SORT && told.sort != BYTES) {
            return CAST;
        }
        for (int s = 0; s < now.sounds; s++) {
            if (i < 0 || i >= told.size - s) {
                return JUDGED_SHORT + s;
            }
            if (told.items[i + s] != now.loud[s]) {
                return s;
            }
        }
        return LACKING;
    }

    public int image() {
        kept.takeAll(now);
        hasImage = true;
        return now.sounds;
    }

    public int undo() {
        if (!hasImage) {
            return STATE;
        }
        now.takeAll(kept);
        return now.sounds;
    }

    public int act(int sound, int act, int x) {
        acts.ran = 0;
        return now.has(sound) ? acts.perform(now.kind[sound], sound, now.v[sound], act, x) : 0;
    }

    public int trace(int i) {
        return i >= 0 && i < MOST_TRACE && i < acts.ran ? acts.bodies[i] : NONE;
    }

    public int taken(int sound, int k) {
        if (!isIn(k, KINDS - 1)) {
            return BAD;
        }
        if (!now.has(sound)) {
            return NOTHING;
        }
        int kind = now.kind[sound];
        int up = kind;
        for (int n = 0; n < KINDS && up >= 0; n++) {
            if (up == k) {
                return kind;
            }
            up = ABOVE[up];
        }
        return CAST;
    }

    public int count(int what) {
        switch (what) {
            case 0: return now.sounds;
            case 1: return streetsMade;
            case 2: return now.seen.count;
            case 3: return now.plan.count;
            case 4: return now.book.count;
            case 5: return text.length;
            case 6: return acts.ran;
            default: return BAD;
        }
    }

    public int tape(int tape, int sort, int n) {
        if (!isTape(tape)) {
            return NONE;
        }
        if (sort == NO_SORT) {
            tapes[tape].become(NO_SORT, 0);
            return 1;
        }
        if (!isIn(sort, BOOLEANS) || n > MOST_ITEMS) {
            return BAD;
        }
        if (n < 0) {
            return SIZE;
        }
        tapes[tape].become(sort, n);
        return 1;
    }

    public int item(int tape, int i, long v) {
        if (!isTape(tape)) {
            return NONE;
        }
        if (tapes[tape].sort == NO_SORT) {
            return NOTHING;
        }
        if (!tapes[tape].hasPlace(i)) {
            return PLACE;
        }
        tapes[tape].put(i, v);
        return 1;
    }

    public long read(int tape, int i) {
        return isTape(tape) && tapes[tape].hasPlace(i) ? tapes[tape].items[i] : NO;
    }

    public int shift(int tape, int i, int other, int j, int n) {
        if (!isTape(tape) || !isTape(other)) {
            return NONE;
        }
        Tape from = tapes[tape];
        Tape to = tapes[other];
        if (from.sort == NO_SORT || to.sort == NO_SORT) {
            return NOTHING;
        }
        if (from.sort != to.sort) {
            return CAST;
        }
        if (!from.hasPlaces(i, n) || !to.hasPlaces(j, n)) {
            return PLACE;
        }
        System.arraycopy(from.items, i, to.items, j, n);
        return n;
    }

    private static boolean isIn(int n, int top) {
        return n >= 0 && n <= top;
    }

    private static boolean isHouse(int house) {
        return isIn(house, HOUSES - 1);
    }

    private static boolean isTape(int tape) {
        return isIn(tape, TAPES - 1);
    }

    /** Rows of up to three numbers that were told by hand. */
    private static final class Rows {
        int count;
        final int[] first;
        final int[] second;
        final int[] third;

        Rows(int most) {
            first = new int[most];
            second = new int[most];
            third = new int[most];
        }

        boolean isFull() {
            return count >= first.length;
        }

        int empty() {
            count = 0;
            return count;
        }

        /** Only asked where it is not full. */
        int add(int a, int b, int c) {
            first[count] = a;
            second[count] = b;
            third[count] = c;
            count++;
            return count;
        }

        void takeAll(Rows other) {
            System.arraycopy(other.first, 0, first, 0, first.length);
            System.arraycopy(other.second, 0, second, 0, second.length);
            System.arraycopy(other.third, 0, third, 0, third.length);
            count = other.count;
        }
    }

    /** All that THE IMAGE keeps. */
    private static final class Lot {
        int sounds;
        final int[] kind = new int[SOUNDS];
        final int[] v = new int[SOUNDS];
        final int[] loud = new int[SOUNDS];
        final int[] house = new int[SOUNDS];
        /** The ROWS, one behind the other; 0 for SOUNDS that are still to come, as THE IMAGE brings all back. */
        final int[] more = new int[SOUNDS * PARTS];
        int year;
        Street street;
        final Rows seen = new Rows(MOST_SEEN);
        final Rows plan = new Rows(MOST_PLAN);
        final Rows book = new Rows(MOST_BOOK);
        /** What the letters of a TEST stand for, made anew for each VOICE. */
        private final int[] letters = new int[Street.LETTERS];

        Lot(Street bare) {
            street = bare;
        }

        boolean has(int sound) {
            return sound >= 0 && sound < sounds;
        }

        boolean isLost(int sound) {
            return house[sound] == LOST;
        }

        /** Only asked where there are not all SOUNDS yet. */
        int come(int itsKind, int itsV, int itsLoud, int itsHouse) {
            kind[sounds] = itsKind;
            v[sounds] = itsV;
            loud[sounds] = itsLoud;
            house[sounds] = itsHouse;
            sounds++;
            return sounds - 1;
        }

        void takeSounds(Lot other) {
            sounds = other.sounds;
            System.arraycopy(other.kind, 0, kind, 0, SOUNDS);
            System.arraycopy(other.v, 0, v, 0, SOUNDS);
            System.arraycopy(other.loud, 0, loud, 0, SOUNDS);
            System.arraycopy(other.house, 0, house, 0, SOUNDS);
            System.arraycopy(other.more, 0, more, 0, SOUNDS * PARTS);
            year = other.year;
            street = other.street;
        }

        void takeAll(Lot other) {
            takeSounds(other);
            seen.takeAll(other.seen);
            plan.takeAll(other.plan);
            book.takeAll(other.book);
        }

        int wears(int sound) {
            switch (kind[sound]) {
                case SQUEAK:
                case JAR: return street.wear / 2;
                case TOLD: return year % 2 == 0 ? 0 : street.wear;
                default: return street.wear;
            }
        }

        void goYears(int n) {
            for (int i = 0; i < n; i++) {
                for (int s = 0; s < sounds; s++) {
                    if (!isLost(s)) {
                        loud[s] = Math.max(0, loud[s] - wears(s));
                    }
                }
                year++;
            }
        }

        /** A row of the PLAN goes. */
        void go(int what, int sound) {
            if (what == GO_YEAR) {
                goYears(1);
            } else if (has(sound) && !isLost(sound)) {
                if (what == GO_LOST) {
                    house[sound] = LOST;
                } else if (what == GO_BEHIND && house[sound] < HOUSES - 1) {
                    house[sound]++;
                } else if (what == GO_AHEAD && house[sound] > 0) {
                    house[sound]--;
                }
            }
        }

        /** VOICE of a SOUND, were it in that HOUSE (not LOST). */
        int voiceIn(int sound, int itsHouse) {
            if (loud[sound] == 0) {
                return 0;
            }
            letters[0] = sound;
            letters[1] = itsHouse;
            letters[2] = kind[sound];
            letters[3] = v[sound];
            letters[4] = loud[sound] / 10;
            letters[5] = year % 10;
            int voice = loud[sound];
            for (int i = 0; i < street.clauses; i++) {
                if (street.holds(i, letters)) {
                    voice += street.louder[i];
                }
            }
            return Math.max(0, voice);
        }

        /** HEARD in a HOUSE from a SOUND that is in another one (or the same) and has that VOICE there. */
        int heard(int sound, int voice, int from, int to) {
            int far = Math.abs(from - to);
            int plain = Math.max(0, voice - street.wall * far);
            int coughed = Math.max(0, voice - street.wall / 2 * far);
            int drummed = year % 2 == 0 ? plain / 2 : plain;
            switch (kind[sound]) {
                case DRUM: return drummed;
                case COUGH: return coughed;
                case JAR: return far == 0 ? plain : 0;
                case RAIN: return to < from ? drummed + v[sound] : drummed;
                case TOLD: return far == 0 ? coughed + more[sound * PARTS + year % PARTS] : coughed;
                default: return plain;
            }
        }

        int heardIn(int sound, int there) {
            if (isLost(sound)) {
                return 0;
            }
            return heard(sound, voiceIn(sound, house[sound]), house[sound], there);
        }

        int noiseOf(int there) {
            int noise = 0;
            for (int s = 0; s < sounds; s++) {
                noise += heardIn(s, there);
            }
            return noise;
        }

        int greatest() {
            int most = 0;
            for (int there = 0; there < HOUSES; there++) {
                most = Math.max(most, noiseOf(there));
            }
            return most;
        }

        int stillHouses() {
            int bits = 0;
            for (int there = 0; there < HOUSES; there++) {
                if (noiseOf(there) <= street.calm) {
                    bits |= 1 << there;
                }
            }
            return bits;
        }
    }

    /** The CLAUSES, read: each E stands as a row of operators behind what they work on. */
    private static final class Street {
        static final int LETTERS = 6;
        /** Operators; a lesser number is the letter of a TEST. */
        static final int NOT = 6, AND = 7, OR = 8;
        int wall;
        int calm;
        int wear;
        /** How many CLAUSES are loud or soft; by how much each is louder; where its E begins. */
        int clauses;
        final int[] louder = new int[MOST_CLAUSES];
        private final int[] begins = new int[MOST_CLAUSES + 1];
        private int size;
        private final int[] operator = new int[MOST_TEXT];
        /** How the letter compares to the number: -1 less, 0 equal, 1 more. */
        private final int[] order = new int[MOST_TEXT];
        private final int[] number = new int[MOST_TEXT];

        Street() {
            empty();
        }

        void empty() {
            wall = 6;
            calm = 10;
            wear = 1;
            clauses = 0;
            size = 0;
        }

        /** Each operator has a byte of THE TEXT of its own, so that there is always room. */
        void add(int itsOperator, int itsOrder, int itsNumber) {
            if (size < MOST_TEXT) {
                operator[size] = itsOperator;
                order[size] = itsOrder;
                number[size] = itsNumber;
                size++;
            }
        }

        /** What was added since the CLAUSE before is the E of this one. */
        void endClause(int byHowMuch) {
            if (clauses < MOST_CLAUSES) {
                louder[clauses] = byHowMuch;
                clauses++;
                begins[clauses] = size;
            }
        }

        /** Whether the E of a CLAUSE holds; the bits are a stack, eleven are in use at most. */
        boolean holds(int clause, int[] letters) {
            int bits = 0;
            for (int i = begins[clause]; i < begins[clause + 1]; i++) {
                switch (operator[i]) {
                    case NOT:
                        bits ^= 1;
                        break;
                    case AND:
                        bits = (bits >> 1) & (bits | ~1);
                        break;
                    case OR:
                        bits = (bits >> 1) | (bits & 1);
                        break;
                    default:
                        int is = letters[operator[i]];
                        boolean so = order[i] < 0 ? is < number[i] : order[i] > 0 ? is > number[i] : is == number[i];
                        bits = bits << 1 | (so ? 1 : 0);
                }
            }
            return (bits & 1) == 1;
        }
    }

    /** THE TEXT, and how a STREET is read from it. */
    private static final class Text {
        private static final int WORD = 4;
        private static final int LOUD = 0, SOFT = 1, WALL = 2, CALM = 3, WEAR = 4;
        private static final int WORDS = 5;
        private static final String ALL_WORDS = "loudsoftwallcalmwear";
        private static final String TEST_LETTERS = "shkvly";
        private static final String ORDERS = "<=>";
        private static final String DIGITS = "0123456789";
        private final byte[] signs = new byte[MOST_TEXT];
        int length;
        /** Goes on only behind what a STREET can begin with: where a reading fails, it is the FAULT. */
        int at;
        private Street made;

        /** Only asked where it is not full. */
        int grow(byte sign) {
            signs[length] = sign;
            length++;
            return length;
        }

        boolean makes(Street street) {
            made = street;
            made.empty();
            at = 0;
            boolean good = readsClause();
            for (int n = 1; good && n < MOST_CLAUSES && readsSign(';'); n++) {
                good = readsClause();
            }
            return good && at == length;
        }

        private boolean readsClause() {
            int word = readWord();
            int n = word >= 0 && readsSign(' ') ? readNumber() : -1;
            if (n < 0) {
                return false;
            }
            switch (word) {
                case WALL:
                    made.wall = n;
                    return true;
                case CALM:
                    made.calm = n;
                    return true;
                case WEAR:
                    made.wear = n;
                    return true;
                default:
                    boolean good = readsSign(' ') && readsAny(0);
                    made.endClause(word == SOFT ? -n : n);
                    return good;
            }
        }

        /** The number of the word; without one (-1) as much as some word begins with is gone by. */
        private int readWord() {
            int most = 0;
            for (int word = LOUD; word < WORDS; word++) {
                int same = 0;
                while (same < WORD && at + same < length
                        && signs[at + same] == ALL_WORDS.charAt(word * WORD + same)) {
                    same++;
                }
                if (same == WORD) {
                    at += WORD;
                    return word;
                }
                most = Math.max(most, same);
            }
            at += most;
            return -1;
        }

        /** E; it stands within so many ( and !. */
        private boolean readsAny(int nested) {
            boolean good = readsAll(nested);
            for (int n = 0; good && n < MOST_TEXT && readsSign('|'); n++) {
                good = readsAll(nested);
                made.add(Street.OR, 0, 0);
            }
            return good;
        }

        /** T. */
        private boolean readsAll(int nested) {
            boolean good = readsOne(nested);
            for (int n = 0; good && n < MOST_TEXT && readsSign('&'); n++) {
                good = readsOne(nested);
                made.add(Street.AND, 0, 0);
            }
            return good;
        }

        /** F. */
        private boolean readsOne(int nested) {
            if (nested < MOST_NESTED && readsSign('!')) {
                boolean good = readsOne(nested + 1);
                made.add(Street.NOT, 0, 0);
                return good;
            }
            if (nested < MOST_NESTED && readsSign('(')) {
                return readsAny(nested + 1) && readsSign(')');
            }
            return readsTest();
        }

        private boolean readsTest() {
            int letter = readOneOf(TEST_LETTERS);
            int order = letter < 0 ? -1 : readOneOf(ORDERS);
            int n = order < 0 ? -1 : readNumber();
            if (n < 0) {
                return false;
            }
            made.add(letter, order - 1, n);
            return true;
        }

        /** 1 or 2 digits; -1: there are none. */
        private int readNumber() {
            int first = readOneOf(DIGITS);
            int second = first < 0 ? -1 : readOneOf(DIGITS);
            return second < 0 ? first : 10 * first + second;
        }

        /** Which of these the next sign is; -1: none of them. */
        private int readOneOf(String these) {
            int which = at < length ? these.indexOf((char) signs[at]) : -1;
            if (which >= 0) {
                at++;
            }
            return which;
        }

        private boolean readsSign(char sign) {
            if (at >= length || signs[at] != sign) {
                return false;
            }
            at++;
            return true;
        }
    }

    /** Ways to put the SOUNDS into HOUSES, in this YEAR; what each is heard from where is worked out once. */
    private static final class Ways {
        private int sounds;
        private int calm;
        private final int[] heard = new int[SOUNDS * HOUSES * HOUSES];
        private final int[] house = new int[SOUNDS];
        private final int[] noise = new int[HOUSES];
        private final boolean[] lost = new boolean[SOUNDS];
        /** By SHARED: what is HEARD of each SOUND in each HOUSE at least. */
        private final int[] atLeast = new int[SOUNDS * HOUSES];
        /** By SHARED: NOISE with so many SOUNDS put, and the least of the others. */
        private final int[] sums = new int[(SOUNDS + 1) * HOUSES];
        final int[] bestHouse = new int[SOUNDS];
        int bestGreatest;
        int bestTotal;
        /** The SOUNDS PASSED ON: 10 times the SOUND and the HOUSE. */
        final int[] steps = new int[MOST_STEPS];

        void take(Lot lot) {
            sounds = lot.sounds;
            calm = lot.street.calm;
            for (int there = 0; there < HOUSES; there++) {
                noise[there] = 0;
            }
            for (int s = 0; s < sounds; s++) {
                for (int from = 0; from < HOUSES; from++) {
                    int voice = lot.voiceIn(s, from);
                    for (int to = 0; to < HOUSES; to++) {
                        heard[(s * HOUSES + from) * HOUSES + to] = lot.heard(s, voice, from, to);
                    }
                }
                lost[s] = lot.isLost(s);
                house[s] = LOST;
                put(s, lot.house[s]);
            }
        }

        private void put(int sound, int itsHouse) {
            for (int there = 0; there < HOUSES; there++) {
                noise[there] += heardFrom(sound, itsHouse, there) - heardFrom(sound, house[sound], there);
            }
            house[sound] = itsHouse;
        }

        private int heardFrom(int sound, int from, int to) {
            return from == LOST ? 0 : heard[(sound * HOUSES + from) * HOUSES + to];
        }

        private int greatest() {
            int most = 0;
            for (int there = 0; there < HOUSES; there++) {
                most = Math.max(most, noise[there]);
            }
            return most;
        }

        /** HOME. */
        int calmestHouse(int sound) {
            int calmest = 0;
            int least = ABOVE_ALL_NOISE;
            for (int there = 0; there < HOUSES; there++) {
                put(sound, there);
                int most = greatest();
                if (most < least) {
                    least = most;
                    calmest = there;
                }
            }
            return calmest;
        }

        /** SHARED. */
        void shareOut() {
            bestGreatest = ABOVE_ALL_NOISE;
            bestTotal = ABOVE_ALL_NOISE;
            for (int there = 0; there < HOUSES; there++) {
                sums[there] = 0;
                for (int s = 0; s < sounds; s++) {
                    atLeast[s * HOUSES + there] = leastHeard(s, there);
                    sums[there] += atLeast[s * HOUSES + there];
                }
            }
            shareFrom(0);
        }

        /** What is HEARD of a SOUND in a HOUSE at least, wherever it is put. */
        private int leastHeard(int sound, int there) {
            int quietest = lost[sound] ? 0 : ABOVE_ALL_NOISE;
            for (int from = 0; from < HOUSES; from++) {
                quietest = Math.min(quietest, heardFrom(sound, from, there));
            }
            return quietest;
        }

        /** All ways for this SOUND and those behind it, in the order of rows, but those that can't be better. */
        private void shareFrom(int sound) {
            if (sound >= sounds) {
                keepWay();
                return;
            }
            int first = lost[sound] ? LOST : 0;
            int last = lost[sound] ? LOST : HOUSES - 1;
            for (int there = first; there <= last; there++) {
                if (isBetter(sound, there)) {
                    shareFrom(sound + 1);
                }
            }
        }

        /** Puts a SOUND; whether the way may be better yet, with the least of all that are behind it. */
        private boolean isBetter(int sound, int itsHouse) {
            house[sound] = itsHouse;
            int most = 0;
            int all = 0;
            for (int there = 0; there < HOUSES; there++) {
                int place = sound * HOUSES + there;
                int sum = sums[place] - atLeast[place] + heardFrom(sound, itsHouse, there);
                sums[place + HOUSES] = sum;
                most = Math.max(most, sum);
                all += sum;
            }
            return most < bestGreatest || most == bestGreatest && all < bestTotal;
        }

        private void keepWay() {
            bestGreatest = 0;
            bestTotal = 0;
            for (int there = 0; there < HOUSES; there++) {
                int sum = sums[sounds * HOUSES + there];
                bestGreatest = Math.max(bestGreatest, sum);
                bestTotal += sum;
            }
            for (int s = 0; s < sounds; s++) {
                bestHouse[s] = house[s];
            }
        }

        /** CHANGE. */
        int bestSwap() {
            int least = greatest();
            int pair = LACKING;
            for (int a = 0; a < sounds; a++) {
                for (int b = a + 1; b < sounds; b++) {
                    if (!lost[a] && !lost[b]) {
                        swap(a, b);
                        int most = greatest();
                        swap(a, b);
                        if (most < least) {
                            least = most;
                            pair = 10 * a + b;
                        }
                    }
                }
            }
            return pair;
        }

        private void swap(int a, int b) {
            int before = house[a];
            put(a, house[b]);
            put(b, before);
        }

        /** WORST. */
        int worstSound() {
            int least = ABOVE_ALL_NOISE;
            int worst = LACKING;
            for (int s = 0; s < sounds; s++) {
                int before = house[s];
                put(s, LOST);
                int most = greatest();
                put(s, before);
                if (most < least) {
                    least = most;
                    worst = s;
                }
            }
            return worst;
        }

        /** By how many SOUNDS, each being the one that is LOST, a HOUSE is STILL. */
        int stillWithoutOne(int there) {
            int many = 0;
            for (int s = 0; s < sounds; s++) {
                int before = house[s];
                put(s, LOST);
                if (noise[there] <= calm) {
                    many++;
                }
                put(s, before);
            }
            return many;
        }

        /** FEWEST; the steps stand in their row then. */
        int fewestSteps() {
            for (int many = 0; many <= MOST_STEPS; many++) {
                if (isStillBy(0, many)) {
                    return many;
                }
            }
            return LACKING;
        }

        /** Whether it is STILL by so many steps, of which some are done. */
        private boolean isStillBy(int done, int many) {
            if (done >= many) {
                return greatest() <= calm;
            }
            for (int s = 0; s < sounds; s++) {
                int before = house[s];
                for (int to = before - 1; to <= before + 1; to += 2) {
                    if (!lost[s] && isHouse(to)) {
                        steps[done] = 10 * s + to;
                        put(s, to);
                        if (isStillBy(done + 1, many)) {
                            return true;
                        }
                        put(s, before);
                    }
                }
            }
            return false;
        }
    }

    /** The BODIES of the ACTS of one SOUND; each is looked for from a KIND on, and above it. */
    private static final class Acts {
        int ran;
        final int[] bodies = new int[MOST_TRACE];
        private int kind;
        private int i;
        private int v;

        int perform(int itsKind, int itsNumber, int itsV, int act, int x) {
            kind = itsKind;
            i = itsNumber;
            v = itsV;
            switch (act) {
                case 0: return creaks(kind, x);
                case 1: return rings(kind, x);
                case 2: return tells(kind, x);
                default: return 0;
            }
        }

        private void begin(int body) {
            if (ran < MOST_TRACE) {
                bodies[ran] = body;
            }
            ran++;
        }

        private int creaks(int from, int x) {
            switch (from) {
                case TOLD:
                    begin(71);
                    return creaks(COUGH, x) ^ v;
                case JAR:
                    begin(50);
                    return -creaks(SQUEAK, x);
                case RAIN:
                case DRUM:
                    begin(30);
                    return creaks(SOUND, x * 3);
                default:
                    begin(10);
                    return x + i;
            }
        }

        private int rings(int from, int x) {
            switch (from) {
                case TOLD:
                    begin(70);
                    int rung = rings(COUGH, x);
                    return rung + creaks(COUGH, 2);
                case JAR:
                    begin(51);
                    return rings(SQUEAK, x + 1);
                case SQUEAK:
                    begin(20);
                    return rings(SOUND, x) ^ 6;
                default:
                    begin(11);
                    return creaks(kind, x) - v;
            }
        }

        private int tells(int from, int x) {
            switch (from) {
                case RAIN:
                    begin(60);
                    return tells(DRUM, x - i);
                case TOLD:
                case COUGH:
                    begin(40);
                    int told = tells(SOUND, x);
                    return told + rings(kind, 1);
                default:
                    begin(12);
                    return rings(kind, x) * 2;
            }
        }
    }

    /** A TAPE; whatever its sort, its items are held as longs of that sort's bits. */
    private static final class Tape {
        int sort = NO_SORT;
        int size;
        final long[] items = new long[MOST_ITEMS];

        void become(int itsSort, int itsSize) {
            sort = itsSort;
            size = itsSize;
            for (int i = 0; i < MOST_ITEMS; i++) {
                items[i] = 0;
            }
        }

        boolean hasPlace(int i) {
            return i >= 0 && i < size;
        }

        boolean hasPlaces(int i, int n) {
            return n >= 0 && i >= 0 && n <= size && i <= size - n;
        }

        /** Only asked where there is such a place. */
        void put(int i, long v) {
            switch (sort) {
                case BYTES:
                    items[i] = (byte) v;
                    break;
                case SHORTS:
                    items[i] = (short) v;
                    break;
                case INTS:
                    items[i] = (int) v;
                    break;
                case LONGS:
                    items[i] = v;
                    break;
                default:
                    items[i] = v != 0 ? 1 : 0;
            }
        }
    }
}
