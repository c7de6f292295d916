/** The edges that "What it is" and the first part of "Terms" name, sentence by sentence; worked out by hand. */
public final class StreetEdgesTest {
    private static final Edges EDGES = new Edges("StreetEdgesTest");
    private static final String[] ALONE = {};
    /** A SOUND of LOUD 20 and v 0 in HOUSE 0. */
    private static final String[] ONE = {"sound(0, 0, 20, 0) = 0"};

    public static void main(String[] args) {
        calls();
        houses();
        sounds();
        kinds();
        theText();
        clauses();
        blanks();
        numbers();
        letters();
        sounding();
        orders();
        orAndNot();
        nested();
        faults();
        holding();
        last();
        voice();
        heardOfSound();
        heardOfDrum();
        heardOfCough();
        heardOfJar();
        heardOfRain();
        heardOfTold();
        heardOfLost();
        noise();
        wears();
        aYearGoes();
        EDGES.end();
    }

    private static void edge(String sentence, String... lines) {
        EDGES.edge(sentence, lines);
    }

    private static void calls() {
        String used = "an object is used for at most 512 calls";
        String[] six = {"6 * sound(0, 0, 60, 0) = 5", "street(wall 99) = 0"};
        edge(used, "512 * told(5) = 31");
        edge(used, "512 * image() = 0");
        edge(used, "511 * tape(0, 3, 60) = 1", "read(0, 59) = 0");
        edge(used, "512 * sound(0, 0, 0, 5) = -1");
        for (String call : new String[] {"shared(0) = 120", "shared(1) = 360", "fewest(-1) = -5", "louds(5, 0) = 41",
            "can(0, 0) = 10", "where(0) = 31", "home(0) = 1", "best(0) = -5", "best(1) = 0", "mean(60, 0) = 0",
            "on(60, 0) = 0", "when(0, 1) = 0", "odds(0, 0) = 0", "ends(0) = 360", "act(0, 2, 1) = 2", "looked() = -5",
            "of(5, 20) = 60", "told(10) = 360", "set(0, 60) = 60", "years(0) = 0", "see(-1, 0, 0) = 0"}) {
            EDGES.edgeOn(six, used, "498 * " + call);
        }
        edge(used, "sound(0, 0, 1, 0) = 0", "166 * years(60) = 9960", "344 * undo() = -3", "told(0) = 9960");
    }

    private static void houses() {
        String row = "1: HOUSES 0 .. 4 stand in a row; FAR two are by as many as their numbers are apart";
        edge(row, "sound(0, 0, 99, 0) = 0", "told(10) = 99", "told(11) = 93", "told(12) = 87", "told(13) = 81",
            "told(14) = 75", "told(9) = -1", "told(15) = -1");
        edge(row, "sound(0, 0, 99, 4) = 0", "told(10) = 75", "told(11) = 81", "told(12) = 87", "told(13) = 93",
            "told(14) = 99");
        edge(row, "sound(0, 0, 99, 2) = 0", "told(10) = 87", "told(11) = 93", "told(12) = 99", "told(13) = 93",
            "told(14) = 87");
        edge("1: HOUSES 0 .. 4, none else", "sound(0, 0, 1, -1) ~ -1", "sound(0, 0, 1, 5) ~ -1",
            "sound(0, 0, 1, MIN) ~ -1", "sound(0, 0, 1, MAX) ~ -1", "sound(0, 0, 1, 0) = 0", "sound(0, 0, 1, 4) = 1");
    }

    private static void sounds() {
        edge("1: SOUNDS 0 .. 5, as they come", "of(0, 0) ~ -1001", "sound(0, 0, 10, 0) = 0", "of(1, 0) ~ -1001",
            "sound(1, 1, 11, 1) = 1", "sound(2, 2, 12, 2) = 2", "sound(3, 3, 13, 3) = 3", "sound(4, 4, 14, 4) = 4",
            "of(5, 0) ~ -1001", "sound(5, 5, 15, 0) = 5", "sound(6, 6, 16, 0) ~ -4", "of(6, 0) ~ -1001",
            "of(-1, 0) ~ -1001", "of(0, 2) = 10", "of(1, 2) = 11", "of(2, 2) = 12", "of(3, 2) = 13", "of(4, 2) = 14",
            "of(5, 2) = 15");
        edge("1: with a number v (0 .. 9)", "sound(0, -1, 1, 0) ~ -2", "sound(0, 10, 1, 0) ~ -2",
            "sound(0, 0, 1, 0) = 0", "sound(0, 9, 1, 0) = 1", "of(0, 1) = 0", "of(1, 1) = 9");
        edge("1: LOUD (0 .. 99)", "sound(0, 0, -1, 0) ~ -2", "sound(0, 0, 100, 0) ~ -2", "sound(0, 0, 0, 0) = 0",
            "sound(0, 0, 99, 0) = 1", "of(0, 2) = 0", "of(1, 2) = 99");
        edge("1: a HOUSE, or LOST (not at first)", "sound(0, 0, 0, 0) = 0", "of(0, 3) = 0", "sound(0, 0, 0, 4) = 1",
            "of(1, 3) = 4", "lose(1) = 4", "of(1, 3) = -5", "of(0, 3) = 0");
        edge("1: YEAR: 0 at first", "told(0) = 0", "sound(6, 9, 99, 4) = 0", "told(0) = 0");
    }

    private static void kinds() {
        String under = "1: KINDS: 0 SOUND; 1 SQUEAK, 2 DRUM, 3 COUGH under SOUND; 4 JAR under SQUEAK; 5 RAIN under DRUM;"
            + " 6 TOLD under COUGH";
        int[] above = {-1, 0, 0, 0, 1, 2, 3};
        for (int kind = 0; kind < 7; kind++) {
            for (int k = 0; k < 7; k++) {
                boolean is = k == 0 || k == kind || k == above[kind];
                edge(under, "sound(" + kind + ", 0, 0, 0) = 0", "of(0, 0) = " + kind,
                    "taken(0, " + k + ") = " + (is ? kind : -12));
            }
        }
        edge("1: no other KINDS", "sound(-1, 0, 0, 0) ~ -1", "sound(7, 0, 0, 0) ~ -1", "sound(MIN, 0, 0, 0) ~ -1",
            "sound(MAX, 0, 0, 0) ~ -1");
    }

    private static void theText() {
        String sentence = "1: THE TEXT (bytes, 100 at most)";
        String hundred = "loud 12 s=1" + "|s=1".repeat(21) + "|s=11";
        edge(sentence, "fed(" + hundred + ") = 100", "feed(59) ~ -4", "count(5) = 100", "street() = 0", "count(5) = 0");
        edge(sentence, "fed(" + hundred.substring(0, 99) + ") = 99", "fed(2) = 100", "feed(48) = -4",
            "6 * sound(0, 0, 20, 0) = 5", "street() = 0", "of(1, 10) = 32", "of(2, 10) = 20");
        edge("9: a new THE TEXT is empty, and is so when a STREET was read", "count(5) = 0", "street() = -10",
            "fed(wall 3) = 6", "street() = 0", "count(5) = 0", "street() = -10");
    }

    private static void clauses() {
        String many = "1: CLAUSES, 1 to 10";
        String nine = "wall 1;wall 2;wall 3;wall 4;wall 5;wall 6;wall 7;wall 8;wall 9";
        edge(many, "street() = -10", "street(wall 7) = 0", "told(1) = 7");
        edge(many, "street(" + nine + ") = 0", "told(1) = 9");
        edge(many, "street(" + nine + ";wall 0) = 0", "told(1) = 0");
        edge(many, "street(" + nine + ";wall 0;wall 3) = -79", "told(1) = 6");
        edge(many, "street(" + nine + ";wall 0;) = -79", "told(1) = 6");
        String loud = "loud 1 s<9;".repeat(8) + "wall 1;";
        EDGES.edgeOn(ONE, many, "street(" + loud + "calm 1) = -110", "street(" + loud.substring(0, 88) + "wall 5) = 0",
            "of(0, 10) = 28");
        EDGES.edgeOn(ONE, "1: all of CLAUSES may be loud or soft", "street(loud 1 s<9;".concat("soft 1 s<9;".repeat(8)) + ") = -109",
            "street(" + "loud 9 s=0;".repeat(8) + "loud 9 s=0) = 0", "of(0, 10) = 101");
        String between = "1: with ; between";
        EDGES.each(ALONE, between, "street(wall 1;wall 2) = 0", "street(wall 1wall 2) = -16", "street(wall 1,wall 2) = -16",
            "street(;wall 1) = -10", "street(wall 1;) = -17", "street(wall 1;;wall 2) = -17", "street(wall 12;) = -18",
            "street(wall 12 ;wall 1) = -17", "street(wall 1:wall 2) = -16", "street(loud 1 s=1;) = -21",
            "street(loud 1 s=1wall 2) = -20", "street(loud 1 s=12;;) = -22");
        String forms = "1: loud n E; soft n E; wall n; calm n; wear n";
        EDGES.each(ALONE, forms, "street(loud 1 s=1) = 0", "street(soft 1 s=1) = 0", "street(wall 1) = 0",
            "street(calm 1) = 0", "street(wear 1) = 0", "street(loud 1) = -16", "street(soft 1) = -16",
            "street(loud 1 ) = -17", "street(soft 1 ) = -17", "street(wall 1 s=1) = -16", "street(calm 1 s=1) = -16",
            "street(wear 1 s=1) = -16", "street(loud s=1) = -15", "street(soft s=1) = -15", "street(loud) = -14",
            "street(soft ) = -15", "street(wall) = -14", "street(wall ) = -15", "street(calm ) = -15", "street(wear ) = -15");
        String[] words = {"loud", "soft", "wall", "calm", "wear"};
        for (String word : words) {
            for (int i = 0; i < 4; i++) {
                String spoilt = word.substring(0, i) + "x" + word.substring(i + 1);
                EDGES.each(ALONE, forms, "street(" + spoilt + " 1) = " + (-10 - i), "street(" + word.substring(0, i) + ") = "
                    + (-10 - i), "street(" + word.substring(0, i) + word.substring(i, i + 1).toUpperCase() + ") = " + (-10 - i));
            }
        }
        EDGES.each(ALONE, forms, "street(lall 1) = -11", "street(woar 1) = -11", "street(weal 1) = -13", "street(warl 1) = -12",
            "street(sould 1) = -12", "street(cald 1) = -13", "street(walls 1) = -14");
    }

    private static void blanks() {
        EDGES.each(ALONE, "1: one blank ahead of each part behind the word", "street(wall1) = -14", "street(wall  1) = -15",
            "street(wall\t1) = -14", "street(wall_1) = -14", "street( wall 1) = -10", "street(wall 1 ) = -16",
            "street(wall 1; wall 2) = -17", "street(wall 1 ;wall 2) = -16", "street(w all 1) = -11", "street(wall 1 2) = -16",
            "street(loud1 s=1) = -14", "street(loud  1 s=1) = -15", "street(loud 1s=1) = -16", "street(loud 1  s=1) = -17",
            "street(loud 12s=1) = -17", "street(loud 12  s=1) = -18", "street(loud 1 s =1) = -18", "street(loud 1 s= 1) = -19",
            "street(loud 1 s=1 ) = -20", "street(loud 1 s=1 2) = -20", "street(loud 1 s=1 |s=2) = -20",
            "street(loud 1 s=1| s=2) = -21", "street(loud 1 s=1& s=2) = -21", "street(loud 1 ( s=1)) = -18",
            "street(loud 1 (s=1 )) = -21", "street(loud 1 ! s=1) = -18", "street(soft 1  s=1) = -17", "street(wall 1\n) = -16");
    }

    private static void numbers() {
        String digits = "1: n 1 or 2 digits";
        String[] words = {"wall", "calm", "wear"};
        for (int i = 0; i < 3; i++) {
            String told = "told(" + (i + 1) + ") = ";
            edge(digits, "street(" + words[i] + " 0) = 0", told + 0, "street(" + words[i] + " 9) = 1", told + 9,
                "street(" + words[i] + " 10) = 2", told + 10, "street(" + words[i] + " 99) = 3", told + 99,
                "street(" + words[i] + " 00) = 4", told + 0, "street(" + words[i] + " 08) = 5", told + 8);
            EDGES.each(ALONE, digits, "street(" + words[i] + " 100) = -17", "street(" + words[i] + " 001) = -17",
                "street(" + words[i] + " -1) = -15", "street(" + words[i] + " +1) = -15", "street(" + words[i] + " 1x) = -16",
                "street(" + words[i] + " x) = -15", "street(" + words[i] + " 1.5) = -16", "street(" + words[i] + " :) = -15",
                "street(" + words[i] + " /) = -15", "street(" + words[i] + " 1:) = -16", "street(" + words[i] + " 1/) = -16");
        }
        EDGES.edgeOn(ONE, digits, "street(loud 0 s=0) = 0", "of(0, 10) = 20", "street(loud 99 s=0) = 1", "of(0, 10) = 119",
            "street(loud 07 s=0) = 2", "of(0, 10) = 27", "street(soft 0 s=0) = 3", "of(0, 10) = 20",
            "street(soft 09 s=0) = 4", "of(0, 10) = 11", "street(soft 99 s=0) = 5", "of(0, 10) = 0");
        EDGES.each(ALONE, digits, "street(loud 100 s=0) = -17", "street(soft 100 s=0) = -17", "street(loud -1 s=0) = -15");
        String ofTests = "1: a TEST: a number (1 or 2 digits)";
        EDGES.each(ALONE, ofTests, "street(loud 1 s=0) = 0", "street(loud 1 s=9) = 0", "street(loud 1 s=00) = 0",
            "street(loud 1 s=99) = 0", "street(loud 1 s=100) = -21", "street(loud 1 s=) = -19", "street(loud 1 s=-1) = -19",
            "street(loud 1 s=x) = -19", "street(loud 1 s=1x) = -20", "street(loud 1 s=12x) = -21", "street(loud 1 s=/) = -19",
            "street(loud 1 s=:) = -19", "street(loud 1 s=1:) = -20", "street(loud 1 s=1/) = -20");
        EDGES.edgeOn(ONE, ofTests, "street(loud 1 l=2) = 0", "of(0, 10) = 21", "street(loud 1 l=02) = 1", "of(0, 10) = 21",
            "street(loud 1 l=20) = 2", "of(0, 10) = 20", "street(loud 1 l<10) = 3", "of(0, 10) = 21",
            "street(loud 1 l>10) = 4", "of(0, 10) = 20", "street(loud 1 l<99) = 5", "of(0, 10) = 21");
    }

    /** Each sign there is, at the place of the letter, and at that of < = >. */
    private static void letters() {
        for (char sign = 0; sign < 128; sign++) {
            int due = "shkvly".indexOf(sign) >= 0 ? 0 : sign == '!' || sign == '(' ? -18 : -17;
            edge("1: a TEST: a letter", "street(loud 1 " + sign + "=0) = " + due);
            due = sign == '<' || sign == '=' || sign == '>' ? 0 : -18;
            edge("1: < or = or >", "street(loud 1 s" + sign + "0) = " + due);
            due = sign >= '0' && sign <= '9' ? 0 : -19;
            edge("1: a number", "street(loud 1 s=" + sign + ") = " + due);
            due = sign >= '0' && sign <= '9' ? 0 : sign == ';' || sign == '&' || sign == '|' ? -21 : -20;
            edge("1: behind a TEST", "street(loud 1 s=0" + sign + ") = " + due);
            due = sign == 'l' || sign == 's' || sign == 'c' ? -12 : sign == 'w' ? -10 - 1 : -10;
            edge("1: a word", "street(" + sign + (sign == 'w' ? "" : sign == 'l' || sign == 's' ? "o" : "a") + ") = " + due);
        }
    }

    private static void sounding() {
        edge("1: s the number of the one", "6 * sound(0, 0, 20, 0) = 5", "street(loud 1 s=0) = 0", "of(0, 10) = 21",
            "of(1, 10) = 20", "street(loud 1 s=5) = 1", "of(5, 10) = 21", "of(4, 10) = 20");
        String there = "1: of a HOUSE it might be in h the number of the other";
        EDGES.edgeOn(ONE, there, "street(loud 1 h=0) = 0", "of(0, 10) = 21", "of(0, 11) = 20", "of(0, 14) = 20",
            "street(loud 1 h=4) = 1", "of(0, 14) = 21", "of(0, 13) = 20", "of(0, 10) = 20");
        EDGES.edgeOn(ONE, there, "street(loud 1 h=4) = 0", "lose(0) = 0", "find(0, 4) = 21", "told(10) = 0");
        edge("1: k its KIND", "sound(0, 0, 20, 0) = 0", "sound(6, 0, 20, 0) = 1", "sound(5, 0, 20, 0) = 2",
            "street(loud 1 k=0;loud 2 k=6) = 0", "of(0, 10) = 21", "of(1, 10) = 22", "of(2, 10) = 20");
        edge("1: v its v", "sound(0, 0, 20, 0) = 0", "sound(0, 9, 20, 0) = 1", "sound(0, 5, 20, 0) = 2",
            "street(loud 1 v=0;loud 2 v=9) = 0", "of(0, 10) = 21", "of(1, 10) = 22", "of(2, 10) = 20");
        edge("1: l LOUD by 10 (cut)", "sound(0, 0, 1, 0) = 0", "sound(0, 0, 9, 0) = 1", "sound(0, 0, 10, 0) = 2",
            "sound(0, 0, 19, 0) = 3", "sound(0, 0, 89, 0) = 4", "sound(0, 0, 90, 0) = 5",
            "street(loud 1 l=0;loud 2 l=1;loud 3 l=9) = 0", "of(0, 10) = 2", "of(1, 10) = 10", "of(2, 10) = 12",
            "of(3, 10) = 21", "of(4, 10) = 89", "of(5, 10) = 93", "set(5, 99) = 90", "of(5, 10) = 102",
            "set(5, 20) = 99", "of(5, 10) = 20");
        EDGES.edgeOn(ONE, "1: y YEAR modulo 10", "street(wear 0;loud 1 y=0;loud 2 y=9) = 0", "of(0, 10) = 21", "years(1) = 1",
            "of(0, 10) = 20", "years(7) = 8", "of(0, 10) = 20", "years(1) = 9", "of(0, 10) = 22", "years(1) = 10",
            "of(0, 10) = 21", "years(1) = 11", "of(0, 10) = 20", "166 * years(60) = 9971", "years(28) = 9999",
            "of(0, 10) = 22", "on(1, 10) = 21");
    }

    private static void orders() {
        String less = "1: a TEST by <";
        String equal = "1: a TEST by =";
        String more = "1: a TEST by >";
        String[] six = {"6 * sound(0, 0, 20, 0) = 5"};
        EDGES.edgeOn(six, less, "street(loud 1 s<3) = 0", "of(0, 10) = 21", "of(2, 10) = 21", "of(3, 10) = 20",
            "of(4, 10) = 20", "street(loud 1 s<0) = 1", "of(0, 10) = 20");
        EDGES.edgeOn(six, equal, "street(loud 1 s=3) = 0", "of(0, 10) = 20", "of(2, 10) = 20", "of(3, 10) = 21",
            "of(4, 10) = 20");
        EDGES.edgeOn(six, more, "street(loud 1 s>3) = 0", "of(0, 10) = 20", "of(2, 10) = 20", "of(3, 10) = 20",
            "of(4, 10) = 21", "of(5, 10) = 21", "street(loud 1 s>5) = 1", "of(5, 10) = 20");
        for (String letter : new String[] {"h", "k", "v", "l", "y"}) {
            String[] four = {"sound(4, 4, 44, 4) = 0", "street(wear 0) = 0", "years(4) = 4"};
            String voice = "of(0, 14) = ";
            EDGES.edgeOn(four, less, "street(loud 1 " + letter + "<5) = 1", voice + 45, "street(loud 1 " + letter + "<4) = 2", voice + 44);
            EDGES.edgeOn(four, equal, "street(loud 1 " + letter + "=4) = 1", voice + 45, "street(loud 1 " + letter + "=5) = 2", voice + 44,
                "street(loud 1 " + letter + "=3) = 3", voice + 44);
            EDGES.edgeOn(four, more, "street(loud 1 " + letter + ">3) = 1", voice + 45, "street(loud 1 " + letter + ">4) = 2", voice + 44);
        }
    }

    private static void orAndNot() {
        String any = "1: E: T or T|E";
        EDGES.edgeOn(ONE, any, "street(loud 1 s=0|s=1) = 0", "of(0, 10) = 21", "street(loud 1 s=1|s=0) = 1", "of(0, 10) = 21",
            "street(loud 1 s=1|s=2) = 2", "of(0, 10) = 20", "street(loud 1 s=0|v=0) = 3", "of(0, 10) = 21",
            "street(loud 1 s=1|s=1|s=1|s=0) = 4", "of(0, 10) = 21", "street(loud 1 s=1|s=1|s=1|s=2) = 5", "of(0, 10) = 20");
        String all = "1: T: F or F&T";
        EDGES.edgeOn(ONE, all, "street(loud 1 s=0&s=1) = 0", "of(0, 10) = 20", "street(loud 1 s=1&s=0) = 1", "of(0, 10) = 20",
            "street(loud 1 s=0&v=0) = 2", "of(0, 10) = 21", "street(loud 1 s=0&v=0&k=0&h=0) = 3", "of(0, 10) = 21",
            "street(loud 1 s=0&v=0&k=0&h=1) = 4", "of(0, 10) = 20");
        EDGES.edgeOn(ONE, "1: E of T, T of F", "street(loud 1 s=0|s=1&s=1) = 0", "of(0, 10) = 21", "street(loud 1 s=1&s=1|s=0) = 1",
            "of(0, 10) = 21", "street(loud 1 s=1&s=0|s=1) = 2", "of(0, 10) = 20");
        EDGES.edgeOn(ONE, "1: E of T, T of F: what is ahead of a ( stays as it is", "street(loud 1 s=1&(s=0|s=0)) = 0", "of(0, 10) = 20",
            "street(loud 1 s=1&(s=0&s=0)) = 1", "of(0, 10) = 20", "street(loud 1 s=0&(s=1|s=1)|s=1) = 2", "of(0, 10) = 20",
            "street(loud 1 s=0&(s=1&s=1|s=0)) = 3", "of(0, 10) = 21", "street(loud 1 s=1|!(s=0|s=0)) = 4", "of(0, 10) = 20",
            "street(loud 1 s=0|!(s=0&s=0)) = 5", "of(0, 10) = 21");
        String one = "1: F: !F, (E), or a TEST";
        EDGES.edgeOn(ONE, one, "street(loud 1 !s=0) = 0", "of(0, 10) = 20", "street(loud 1 !s=1) = 1", "of(0, 10) = 21",
            "street(loud 1 !!s=0) = 2", "of(0, 10) = 21", "street(loud 1 (s=0|s=1)&s=1) = 3", "of(0, 10) = 20",
            "street(loud 1 !s=1&s=1) = 4", "of(0, 10) = 20", "street(loud 1 !(s=1&s=1)) = 5", "of(0, 10) = 21");
        EDGES.each(ALONE, one, "street(loud 1 s=0|) = -21", "street(loud 1 s=0&) = -21", "street(loud 1 |s=0) = -17",
            "street(loud 1 &s=0) = -17", "street(loud 1 s=0||s=0) = -21", "street(loud 1 s=0&&s=0) = -21",
            "street(loud 1 s=0&|s=0) = -21", "street(loud 1 ()) = -18", "street(loud 1 !) = -18", "street(loud 1 (s=0) = -21",
            "street(loud 1 s=0)) = -20", "street(loud 1 (s=0))) = -22", "street(loud 1 !)s=0) = -18", "street(loud 1 s=0!) = -20",
            "street(loud 1 s=0(s=0)) = -20", "street(loud 1 (s=0)(s=0)) = -22", "street(loud 1 (s=0)s=0) = -22",
            "street(loud 1 (s=0;wall 1) = -21", "street(loud 1 !(s=0|s=1) = -26", "street(loud 1 s!=0) = -18",
            "street(loud 1 s==0) = -19", "street(loud 1 s<=0) = -19", "street(loud 1 0=s) = -17", "street(loud 1 s) = -18",
            "street(loud 1 ss=0) = -18");
    }

    private static void nested() {
        String sentence = "1: a ( or ! within 4 others is none";
        EDGES.each(ONE, sentence, "street(loud 1 ((((s=0))))) = 0", "street(loud 1 (((((s=0)))))) = -21",
            "street(loud 1 !!!!s=0) = 0", "street(loud 1 !!!!!s=0) = -21", "street(loud 1 !(!(s=0))) = 0",
            "street(loud 1 (!(!s=0))) = 0", "street(loud 1 !(!(!s=0))) = -21", "street(loud 1 !(!((s=0)))) = -21",
            "street(loud 1 ((!!(s=0)))) = -21", "street(loud 1 (((!!s=0)))) = -21", "street(loud 1 !!!!(s=0)) = -21",
            "street(loud 1 ((((!s=0))))) = -21");
        EDGES.each(ONE, "1: within: others beside it are no matter", "street(loud 1 (s=0)&(s=0)&(s=0)&(s=0)&(s=0)&(s=0)) = 0",
            "street(loud 1 !s=1|!s=1|!s=1|!s=1|!s=1|!s=1) = 0", "street(loud 1 ((((s=0))))|((((s=0))))) = 0",
            "street(loud 1 !!!!s=0&!!!!s=0) = 0", "street(loud 1 (((!s=0&!s=0|!s=1)))) = 0",
            "street(loud 1 (((!s=0&(s=0)|(s=1))))) = 0", "street(loud 1 ((((s=0))))&!(!(s=1))) = 0",
            "street(loud 1 ((((s=0))))&!(!(!s=1))) = -33", "street(loud 1 ((((s=0))));loud 1 ((((s=0))))) = 0",
            "street(loud 1 s=0|(s=0|(s=0|(s=0|(s=0))))) = 0", "street(loud 1 s=0|(s=0|(s=0|(s=0|(s=0|(s=0)))))) = -41");
        EDGES.each(ONE, "1: within: also behind a & or |", "street(loud 1 ((((s=0&s=0))))) = 0", "street(loud 1 ((((s=0&(s=0)))))) = -25",
            "street(loud 1 ((((s=0&!s=0))))) = -25", "street(loud 1 ((((s=0|(s=0)))))) = -25", "street(loud 1 ((((s=0|!s=0))))) = -25",
            "street(loud 1 (((s=0&(s=0)|!s=0)))) = 0", "street(loud 1 (((s=0&((s=0))))) = -25", "street(loud 1 !(((s=0&s=0|(s=0))))) = -29");
        EDGES.edgeOn(ONE, "1: 4 of them hold as told", "street(loud 1 ((((s=0))))) = 0", "of(0, 10) = 21",
            "street(loud 1 !!!!s=0) = 1", "of(0, 10) = 21", "street(loud 1 !(!(s=1))) = 2", "of(0, 10) = 20",
            "street(loud 1 !!!(s=0)) = 3", "of(0, 10) = 20",
            "street(loud 1 s=1|s=0&(s=1|s=0&(s=1|s=0&(s=1|s=0&(s=1|s=0&s=0))))) = 4", "of(0, 10) = 21",
            "street(loud 1 s=1|s=0&(s=1|s=0&(s=1|s=0&(s=1|s=0&(s=1|s=0&s=1))))) = 5", "of(0, 10) = 20");
    }

    private static void faults() {
        String text = "loud 12 !(s=1|h<2)&k>3;wall 5";
        String ends = "1: the FAULT: the end of THE TEXT, if it ends too early";
        for (int length = 0; length <= text.length(); length++) {
            boolean whole = length == 18 || length == 22 || length == 29;
            edge(ends, "street(" + text.substring(0, length) + ") = " + (whole ? 0 : -10 - length));
        }
        String first = "1: the FAULT: the place of the first byte with which none begins so";
        for (int place = 0; place <= text.length(); place++) {
            String behind = place < text.length() ? text.substring(place + 1) : "";
            for (char none : new char[] {'x', ' ', 0, 127}) {
                boolean fits = none == ' ' && place < text.length() && text.charAt(place) == ' ';
                if (!fits && !(none == ' ' && place == 6)) {
                    edge(first, "street(" + text.substring(0, place) + none + behind + ") = " + (-10 - place));
                }
            }
        }
        edge(first, "street(loud 1  !(s=1|h<2)&k>3;wall 5) = -17");
        EDGES.each(ALONE, first, "street(x;wall) = -10", "street(wall 1;x;y) = -17", "street(wall x;loud) = -15");
        String longest = "loud 12 s=1" + "|s=1".repeat(22);
        EDGES.each(ALONE, ends, "street(" + longest + "|) = -110", "street(" + longest + "x) = -109", "street(" + longest + "1) = 0",
            "street(" + longest.substring(0, 97) + "|) = -107", "street(" + longest.substring(0, 98) + ") = -108");
    }

    private static void holding() {
        edge("1: without one there are no CLAUSES", "sound(0, 0, 20, 0) = 0", "of(0, 10) = 20", "of(0, 20) = 20",
            "of(0, 21) = 14", "told(1) = 6", "told(2) = 10", "told(3) = 1", "count(1) = 0");
        EDGES.edgeOn(ONE, "1: the newest STREET holds (6 at most)", "street(wall 11;loud 1 s=0) = 0", "told(1) = 11",
            "street(wall 12;loud 2 s=0) = 1", "told(1) = 12", "of(0, 10) = 22", "street(wall 13) = 2", "told(1) = 13",
            "of(0, 10) = 20", "street(wall 14) = 3", "street(wall 15) = 4", "told(1) = 15", "street(wall 16;loud 6 s=0) = 5",
            "told(1) = 16", "of(0, 10) = 26", "count(1) = 6", "street(wall 17) = -4", "told(1) = 16", "of(0, 10) = 26",
            "count(1) = 6");
    }

    private static void last() {
        edge("1: WALL (6 without): the last one's n", "told(1) = 6", "street(calm 3;wear 4) = 0", "told(1) = 6",
            "street(wall 7;wall 0;wall 2) = 1", "told(1) = 2", "street(wear 5) = 2", "told(1) = 6", "street(wall 0) = 3",
            "told(1) = 0");
        edge("1: CALM (10 without): the last one's n", "told(2) = 10", "street(wall 3;wear 4) = 0", "told(2) = 10",
            "street(calm 7;calm 0;calm 2) = 1", "told(2) = 2", "street(wear 5) = 2", "told(2) = 10", "street(calm 0) = 3",
            "told(2) = 0");
        edge("1: WEAR (1 without): the last one's n", "told(3) = 1", "street(calm 3;wall 4) = 0", "told(3) = 1",
            "street(wear 7;wear 0;wear 2) = 1", "told(3) = 2", "street(calm 5) = 2", "told(3) = 1", "street(wear 0) = 3",
            "told(3) = 0");
    }

    private static void voice() {
        EDGES.edgeOn(ONE, "1: VOICE (0 at least)", "street(soft 19 s=0) = 0", "of(0, 10) = 1", "street(soft 20 s=0) = 1",
            "of(0, 10) = 0", "street(soft 21 s=0) = 2", "of(0, 10) = 0", "of(0, 20) = 0", "told(4) = 0",
            "street(soft 99 s=0;soft 99 s=0;soft 99 s=0) = 3", "of(0, 10) = 0", "of(0, 21) = 0");
        EDGES.edgeOn(ONE, "1: VOICE: 0, if it is LOST", "street(loud 99 s=0) = 0", "of(0, 10) = 119", "lose(0) = 0", "of(0, 10) = 0",
            "of(0, 14) = 0");
        EDGES.edgeOn(ONE, "1: VOICE: 0, if LOUD is 0", "street(loud 99 s=0) = 0", "set(0, 1) = 20", "of(0, 10) = 100",
            "set(0, 0) = 1", "of(0, 10) = 0", "of(0, 20) = 0", "told(4) = 0");
        EDGES.edgeOn(ONE, "1: LOUD, and the n of all loud whose E holds, less those of all soft, together",
            "street(soft 99 s=0;loud 99 s=0) = 0", "of(0, 10) = 20", "street(soft 30 s=0;loud 15 s=0) = 1", "of(0, 10) = 5",
            "street(loud 15 s=0;soft 30 s=0) = 2", "of(0, 10) = 5", "street(loud 99 s=0;loud 99 s=0;loud 1 s=1) = 3",
            "of(0, 10) = 218", "street(soft 5 s=0;soft 6 s=0;soft 7 s=1) = 4", "of(0, 10) = 9",
            "street(soft 30 s=0;loud 10 s=0) = 5", "of(0, 10) = 0");
    }

    private static void heardOfSound() {
        for (int kind = 0; kind < 2; kind++) {
            String sentence = "1: HEARD: SOUND, SQUEAK: VOICE less WALL for each it is FAR (0 at least)";
            edge(sentence, "sound(" + kind + ", 9, 13, 0) = 0", "of(0, 20) = 13", "of(0, 21) = 7", "of(0, 22) = 1", "of(0, 23) = 0",
                "of(0, 24) = 0", "set(0, 12) = 13", "of(0, 22) = 0", "set(0, 11) = 12", "of(0, 22) = 0", "told(12) = 0",
                "street(wall 0) = 0", "of(0, 24) = 11", "street(wall 99) = 1", "of(0, 20) = 11", "of(0, 21) = 0", "told(11) = 0");
        }
        edge("1: HEARD from a SOUND that is in one HOUSE, in another one (or the same): by its VOICE in the one",
            "sound(0, 0, 20, 1) = 0", "street(loud 5 h=1;loud 50 h=2) = 0", "of(0, 21) = 25", "of(0, 22) = 19", "of(0, 20) = 19");
        edge("1: HEARD: each by its VOICE in its own HOUSE", "sound(0, 0, 20, 0) = 0", "sound(0, 0, 20, 1) = 1", "sound(0, 0, 20, 2) = 2",
            "street(loud 5 h=1;loud 9 h=2) = 0", "of(0, 20) = 20", "of(1, 21) = 25", "of(1, 20) = 19", "of(2, 22) = 29", "of(2, 20) = 17",
            "told(10) = 56");
    }

    private static void heardOfDrum() {
        String sentence = "1: DRUM: as SOUND, if YEAR is odd, else the half (cut) of that";
        edge(sentence, "sound(2, 9, 15, 1) = 0", "street(wear 0) = 0", "of(0, 21) = 7", "of(0, 20) = 4", "of(0, 22) = 4",
            "of(0, 23) = 1", "of(0, 24) = 0", "years(1) = 1", "of(0, 21) = 15", "of(0, 20) = 9", "of(0, 23) = 3", "of(0, 24) = 0",
            "years(1) = 2", "of(0, 21) = 7", "set(0, 1) = 15", "of(0, 21) = 0", "years(1) = 3", "of(0, 21) = 1", "of(0, 20) = 0");
        edge(sentence, "sound(2, 0, 10, 0) = 0", "street(wear 0) = 0", "166 * years(60) = 9960", "of(0, 20) = 5", "years(39) = 9999",
            "of(0, 20) = 10", "on(1, 10) = 5");
    }

    private static void heardOfCough() {
        String sentence = "1: COUGH: VOICE less the half (cut) of WALL for each it is FAR (0 at least)";
        edge(sentence, "sound(3, 9, 20, 0) = 0", "street(wall 7) = 0", "of(0, 20) = 20", "of(0, 21) = 17", "of(0, 22) = 14",
            "of(0, 23) = 11", "of(0, 24) = 8", "set(0, 12) = 20", "of(0, 24) = 0", "set(0, 13) = 12", "of(0, 24) = 1",
            "set(0, 11) = 13", "of(0, 24) = 0", "told(14) = 0", "street(wall 1) = 1", "of(0, 24) = 11", "street(wall 0) = 2",
            "of(0, 24) = 11", "street(wall 2) = 3", "of(0, 24) = 7", "street(wall 99) = 4", "of(0, 21) = 0",
            "set(0, 99) = 11", "of(0, 21) = 50", "of(0, 22) = 1", "of(0, 23) = 0");
        edge("1: COUGH: in odd YEARS, too", "sound(3, 0, 20, 2) = 0", "street(wear 0;wall 3) = 0", "of(0, 24) = 18", "years(1) = 1",
            "of(0, 24) = 18", "of(0, 22) = 20");
    }

    private static void heardOfJar() {
        edge("1: JAR: as SOUND in its own HOUSE, nowhere else", "sound(4, 9, 20, 2) = 0", "of(0, 22) = 20", "of(0, 21) = 0",
            "of(0, 23) = 0", "of(0, 20) = 0", "of(0, 24) = 0", "street(wall 0;wear 0) = 0", "of(0, 22) = 20", "of(0, 21) = 0",
            "of(0, 23) = 0", "years(1) = 1", "of(0, 22) = 20", "of(0, 23) = 0", "of(0, 13) = 20");
    }

    private static void heardOfRain() {
        String sentence = "1: RAIN: as DRUM, and v in HOUSES with numbers less than its own";
        edge(sentence, "sound(5, 9, 15, 2) = 0", "street(wear 0) = 0", "of(0, 20) = 10", "of(0, 21) = 13", "of(0, 22) = 7",
            "of(0, 23) = 4", "of(0, 24) = 1", "years(1) = 1", "of(0, 20) = 12", "of(0, 21) = 18", "of(0, 22) = 15", "of(0, 23) = 9",
            "of(0, 24) = 3", "told(11) = 18");
        edge(sentence, "sound(5, 9, 1, 0) = 0", "of(0, 20) = 0", "of(0, 21) = 0", "of(0, 24) = 0", "sound(5, 9, 1, 4) = 1",
            "of(1, 24) = 0", "of(1, 23) = 9", "of(1, 20) = 9", "sound(5, 0, 1, 4) = 2", "of(2, 20) = 0");
    }

    private static void heardOfTold() {
        String sentence = "1: TOLD: as COUGH, and its ROW at YEAR modulo 4 more, in its own HOUSE";
        edge(sentence, "sound(6, 9, 20, 2) = 0", "row(0, 0, 1) = 0", "row(0, 1, 2) = 0", "row(0, 2, 3) = 0", "row(0, 3, 4) = 0",
            "street(wear 0;wall 7) = 0", "of(0, 22) = 21", "of(0, 21) = 17", "of(0, 23) = 17", "of(0, 20) = 14", "years(1) = 1",
            "of(0, 22) = 22", "of(0, 21) = 17", "years(1) = 2", "of(0, 22) = 23", "years(1) = 3", "of(0, 22) = 24", "years(1) = 4",
            "of(0, 22) = 21", "166 * years(60) = 9964", "of(0, 22) = 21", "years(35) = 9999", "of(0, 22) = 24", "on(1, 12) = 21",
            "on(2, 12) = 22");
        edge("1: its ROW (four numbers 0 .. 9; 0 at first)", "sound(6, 9, 20, 2) = 0", "row(0, 0, 0) = 0", "row(0, 1, 0) = 0",
            "row(0, 2, 0) = 0", "row(0, 3, 0) = 0", "row(0, 3, 9) = 0", "row(0, 3, 0) = 9", "row(0, 4, 0) ~ -1", "row(0, -1, 0) ~ -1",
            "row(0, 3, 10) ~ -2", "row(0, 3, -1) ~ -2", "of(0, 22) = 20");
        edge("1: each has a ROW of its own", "5 * sound(6, 0, 1, 0) = 4", "sound(6, 0, 1, 0) = 5", "row(0, 3, 5) = 0", "row(1, 0, 6) = 0",
            "row(5, 3, 7) = 0", "row(4, 3, 8) = 0", "row(5, 0, 9) = 0", "row(0, 3, 0) = 5", "row(1, 0, 0) = 6", "row(5, 3, 0) = 7",
            "row(4, 3, 0) = 8", "row(5, 0, 0) = 9");
    }

    private static void heardOfLost() {
        for (int kind = 0; kind < 7; kind++) {
            edge("1: a LOST one is HEARD nowhere", "sound(" + kind + ", 9, 99, 2) = 0", "street(wear 0;wall 0;loud 9 s=0) = 0",
                "years(1) = 1", "lose(0) = 2", "of(0, 20) = 0", "of(0, 21) = 0", "of(0, 22) = 0", "of(0, 23) = 0", "of(0, 24) = 0",
                "told(4) = 0", "told(12) = 0");
        }
        edge("1: a LOST TOLD one's ROW is not HEARD, either", "sound(6, 9, 99, 0) = 0", "row(0, 0, 9) = 0", "lose(0) = 0", "of(0, 20) = 0",
            "told(10) = 0", "find(0, 0) = 108");
    }

    private static void noise() {
        edge("1: NOISE of a HOUSE: what is HEARD there from all, together", "told(10) = 0", "told(14) = 0", "sound(0, 0, 20, 0) = 0",
            "sound(4, 0, 20, 1) = 1", "sound(3, 0, 20, 4) = 2", "sound(1, 0, 20, 2) = 3", "sound(0, 0, 20, 3) = 4",
            "sound(0, 0, 99, 0) = 5", "told(10) = 137", "told(11) = 160", "told(14) = 117", "lose(5) = 0", "told(10) = 38");
        edge("1: a HOUSE is STILL, if its NOISE is CALM or less", "told(5) = 31", "sound(0, 0, 10, 0) = 0", "told(5) = 31",
            "set(0, 11) = 10", "told(5) = 30", "street(calm 11) = 0", "told(5) = 31", "set(0, 12) = 11", "told(5) = 30",
            "street(calm 0) = 1", "told(5) = 28", "set(0, 0) = 12", "told(5) = 31", "set(0, 1) = 0", "told(5) = 30");
    }

    private static void wears() {
        int[][] due = {{0, 1, 2, 99}, {0, 0, 1, 49}, {0, 1, 2, 99}, {0, 1, 2, 99}, {0, 0, 1, 49}, {0, 1, 2, 99}, {0, 0, 0, 0}};
        String[] sentences = {"1: WEARS: all but these: WEAR", "1: SQUEAK, JAR: the half (cut) of WEAR",
            "1: WEARS: all but these: WEAR", "1: WEARS: all but these: WEAR", "1: SQUEAK, JAR: the half (cut) of WEAR",
            "1: WEARS: all but these: WEAR", "1: TOLD: 0, if YEAR is even, else WEAR"};
        for (int kind = 0; kind < 7; kind++) {
            int[] odd = kind == 6 ? due[0] : due[kind];
            edge(sentences[kind], "sound(" + kind + ", 0, 0, 0) = 0", "of(0, 4) = " + due[kind][1], "street(wear 0) = 0",
                "of(0, 4) = " + due[kind][0], "street(wear 2) = 1", "of(0, 4) = " + due[kind][2], "street(wear 99) = 2",
                "of(0, 4) = " + due[kind][3], "years(1) = 1", "of(0, 4) = " + odd[3], "street(wear 2) = 3", "of(0, 4) = " + odd[2],
                "street(wear 1) = 4", "of(0, 4) = " + odd[1], "years(1) = 2", "of(0, 4) = " + due[kind][1], "lose(0) = 0",
                "of(0, 4) = " + due[kind][1]);
        }
        edge(sentences[6], "sound(6, 0, 9, 0) = 0", "166 * years(60) = 9960", "of(0, 4) = 0", "years(39) = 9999", "of(0, 4) = 1");
    }

    private static void aYearGoes() {
        edge("1: a YEAR goes: LOUD of each that is not LOST is what it WEARS less (0 at least)", "sound(0, 0, 5, 0) = 0",
            "sound(0, 0, 4, 0) = 1", "sound(0, 0, 3, 0) = 2", "sound(0, 0, 0, 0) = 3", "sound(0, 0, 5, 0) = 4", "sound(1, 0, 5, 0) = 5",
            "lose(4) = 0", "street(wear 4) = 0", "years(1) = 1", "of(0, 2) = 1", "of(1, 2) = 0", "of(2, 2) = 0", "of(3, 2) = 0",
            "of(4, 2) = 5", "of(5, 2) = 3", "years(1) = 2", "of(0, 2) = 0", "of(4, 2) = 5", "of(5, 2) = 1", "years(60) = 62",
            "of(5, 2) = 0", "of(4, 2) = 5");
        edge("1: a YEAR goes: TOLD wears by the YEAR that goes, not by the next", "sound(6, 0, 20, 0) = 0", "street(wear 3) = 0",
            "years(1) = 1", "of(0, 2) = 20", "years(1) = 2", "of(0, 2) = 17", "years(1) = 3", "of(0, 2) = 17", "years(2) = 5",
            "of(0, 2) = 14");
        edge("1: YEAR is 1 more", "years(1) = 1", "told(0) = 1", "years(1) = 2", "years(60) = 62", "told(0) = 62");
        edge("1: a SOUND is PASSED ON to a HOUSE 1 FAR", "sound(0, 0, 20, 2) = 0", "pass(0, 2) ~ -3", "pass(0, 0) ~ -3", "pass(0, 4) ~ -3",
            "pass(0, 1) = 20", "pass(0, 0) = 20", "pass(0, 1) = 20", "pass(0, 2) = 20", "pass(0, 3) = 20", "pass(0, 4) = 20",
            "pass(0, 3) = 20");
    }
}
