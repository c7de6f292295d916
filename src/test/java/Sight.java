import java.util.ArrayList;
import java.util.Arrays;
import java.util.List;

/** All that can be seen of an object by calls of it. The last of these change it: it is of no use then. */
final class Sight {
    /** So many calls at most are made. */
    static final int CALLS = 290;
    private final SqueakShop shop;
    private final List<String> answers = new ArrayList<>();

    private Sight(SqueakShop shop) {
        this.shop = shop;
    }

    static Sight of(SqueakShop shop) {
        Sight sight = new Sight(shop);
        sight.told();
        sight.sounds();
        sight.seen();
        sight.tapes();
        sight.changing();
        if (sight.answers.size() > CALLS) {
            throw new IllegalStateException("calls of a sight: " + sight.answers.size());
        }
        return sight;
    }

    /** The first answer that is another one; null: none is. */
    String unlike(Sight other) {
        for (int i = 0; i < answers.size(); i++) {
            if (!answers.get(i).equals(other.answers.get(i))) {
                return answers.get(i) + ", not " + other.answers.get(i);
            }
        }
        return null;
    }

    private void look(String name, long... numbers) {
        answers.add(name + Arrays.toString(numbers) + " is " + Calls.answer(shop, name, numbers));
    }

    private void told() {
        for (int what = 0; what < 7; what++) {
            look("count", what);
        }
        for (int i = 0; i < 13; i++) {
            look("trace", i);
        }
        for (int what = 0; what < 6; what++) {
            look("told", what);
        }
    }

    private void sounds() {
        for (int sound = 0; sound < 6; sound++) {
            for (int what = 0; what < 5; what++) {
                look("of", sound, what);
                look("of", sound, 10 + what);
                look("of", sound, 20 + what);
            }
        }
    }

    private void seen() {
        for (int sound = 0; sound < 6; sound++) {
            look("where", sound);
            look("louds", sound, 0);
            look("louds", sound, 1);
            look("can", sound, 0);
        }
        look("ends", 0);
        look("ends", 1);
        look("looked");
    }

    private void tapes() {
        for (int tape = 0; tape < 6; tape++) {
            look("judge", tape, 0);
            for (int i : new int[] {0, 1, 2, 4, 59}) {
                look("read", tape, i);
            }
        }
    }

    private void changing() {
        for (int sound = 0; sound < 6; sound++) {
            for (int part = 0; part < 4; part++) {
                look("row", sound, part, 0);
            }
        }
        for (int tape = 0; tape < 6; tape++) {
            look("item", tape, 0, 0x8888888888888888L);
            look("read", tape, 0);
        }
        look("street");
        look("told", 1);
        look("told", 2);
        look("told", 3);
        look("undo");
        for (int what = 0; what < 6; what++) {
            look("told", what);
            look("count", what);
        }
        for (int sound = 0; sound < 6; sound++) {
            look("of", sound, 2);
            look("of", sound, 3);
            look("where", sound);
            look("book", sound, 6);
        }
        look("looked");
        look("ends", 0);
        for (int part = 0; part < 4; part++) {
            look("row", 0, part, 0);
        }
    }
}
