import java.util.ArrayList;
import java.util.Arrays;
import java.util.List;

/**
 * Looks at sentences of the document, each on new objects. A line is a call and what is due:
 * "set(0, 99) = 20"; with "~" for "=" nothing is to change by it, either, in all that can be seen.
 * "10 * plan(0, 0) = 10" is ten calls, of which the last one's answer is due; "fed(wall 3) = 6" and
 * "street(wall 3) = 0" feed a text first, byte by byte. "?" is due where any answer will do.
 */
final class Edges {
    private static final int MOST_CALLS = 512;
    private final Due due;

    Edges(String name) {
        due = new Due(name);
    }

    void end() {
        due.end();
    }

    /** The lines as one run on a new object. */
    void edge(String sentence, String... lines) {
        edgeOn(new String[0], sentence, lines);
    }

    /** The lines as one run on an object for which other lines stood before. */
    void edgeOn(String[] before, String sentence, String... lines) {
        due.part(sentence);
        List<Line> run = new ArrayList<>();
        SqueakShop shop = new SqueakShop();
        int calls = 0;
        for (String text : joined(before, lines)) {
            Line line = new Line(text);
            long answer = line.answer(shop);
            due.is(line.call, answer, line.takesAny ? answer : line.due);
            if (line.changesNothing) {
                changesNothing(run, line);
                calls = Math.max(calls, callsOf(run) + line.calls() + Sight.CALLS);
            }
            run.add(line);
        }
        calls = Math.max(calls, callsOf(run));
        due.holds("so many calls of one object: " + calls, calls <= MOST_CALLS);
    }

    /** Each of the lines by itself, on an object of its own. */
    void each(String[] before, String sentence, String... lines) {
        for (String line : lines) {
            edgeOn(before, sentence, line);
        }
    }

    /** Behind some lines more all is as before: after undo(), say. */
    void allAsBefore(String[] before, String sentence, String... more) {
        due.part(sentence);
        Sight without = Sight.of(made(lines(before)));
        Sight with = Sight.of(made(lines(joined(before, more))));
        String unlike = with.unlike(without);
        due.holds(Arrays.toString(more) + " changes: " + unlike, unlike == null);
        due.holds("calls", callsOf(lines(joined(before, more))) + Sight.CALLS <= MOST_CALLS);
    }

    /** Something can be seen of it that was not there before, so that a sight has eyes for it. */
    void isSeen(String[] before, String sentence, String... more) {
        due.part(sentence);
        String unlike = Sight.of(made(lines(joined(before, more)))).unlike(Sight.of(made(lines(before))));
        due.holds(Arrays.toString(more) + " changes nothing", unlike != null);
    }

    static String[] joined(String[] some, String... more) {
        String[] all = Arrays.copyOf(some, some.length + more.length);
        System.arraycopy(more, 0, all, some.length, more.length);
        return all;
    }

    private void changesNothing(List<Line> run, Line line) {
        SqueakShop shop = made(run);
        line.answer(shop);
        String unlike = Sight.of(shop).unlike(Sight.of(made(run)));
        due.holds(line.call + " changes: " + unlike, unlike == null);
    }

    private static List<Line> lines(String[] texts) {
        List<Line> all = new ArrayList<>();
        for (String text : texts) {
            all.add(new Line(text));
        }
        return all;
    }

    private static SqueakShop made(List<Line> run) {
        SqueakShop shop = new SqueakShop();
        for (Line line : run) {
            line.answer(shop);
        }
        return shop;
    }

    private static int callsOf(List<Line> run) {
        int calls = 0;
        for (Line line : run) {
            calls += line.calls();
        }
        return calls;
    }

    /** A call, how often it is made, and what it is to answer then. */
    private static final class Line {
        final String call;
        final long due;
        final boolean takesAny;
        final boolean changesNothing;
        private int times = 1;
        private final String name;
        private final String given;

        Line(String text) {
            int mark = Math.max(text.lastIndexOf(" = "), text.lastIndexOf(" ~ "));
            changesNothing = text.charAt(mark + 1) == '~';
            takesAny = text.endsWith(" ?");
            due = takesAny ? 0 : number(text.substring(mark + 3));
            call = text.substring(0, mark).trim();
            String once = call;
            if (once.matches("(?s)[0-9]+ \\* .*")) {
                int star = once.indexOf('*');
                times = Integer.parseInt(once.substring(0, star).trim());
                once = once.substring(star + 1).trim();
            }
            name = once.substring(0, once.indexOf('('));
            given = once.substring(once.indexOf('(') + 1, once.lastIndexOf(')'));
        }

        private static long number(String word) {
            switch (word.trim()) {
                case "MIN": return Integer.MIN_VALUE;
                case "MAX": return Integer.MAX_VALUE;
                case "NO": return Long.MIN_VALUE;
                case "MOST": return Long.MAX_VALUE;
                default: return Long.parseLong(word.trim());
            }
        }

        private boolean hasText() {
            return name.equals("fed") || name.equals("street");
        }

        int calls() {
            return times * (hasText() ? given.length() + (name.equals("street") ? 1 : 0) : 1);
        }

        long answer(SqueakShop shop) {
            long last = 0;
            for (int i = 0; i < times; i++) {
                last = hasText() ? textAnswer(shop) : Calls.answer(shop, name, numbers());
            }
            return last;
        }

        private long textAnswer(SqueakShop shop) {
            long last = 0;
            for (int i = 0; i < given.length(); i++) {
                last = shop.feed(given.charAt(i));
            }
            return name.equals("street") ? shop.street() : last;
        }

        private long[] numbers() {
            if (given.trim().isEmpty()) {
                return new long[0];
            }
            String[] words = given.split(",");
            long[] numbers = new long[words.length];
            for (int i = 0; i < words.length; i++) {
                numbers[i] = number(words[i]);
            }
            return numbers;
        }
    }
}
