/** Counts the answers that are not as they are due, and prints them. */
final class Due {
    private final String name;
    private String part = "";
    private int looked;
    private int wrong;

    Due(String name) {
        this.name = name;
    }

    /** What is looked at from now on. */
    void part(String title) {
        part = title;
    }

    void is(String call, long got, long want) {
        looked++;
        if (got != want) {
            wrong++;
            System.out.println(name + ", " + part + ": " + call + " answered " + got + ", due is " + want);
        }
    }

    void holds(String what, boolean so) {
        looked++;
        if (!so) {
            wrong++;
            System.out.println(name + ", " + part + ": " + what);
        }
    }

    int wrong() {
        return wrong;
    }

    void end() {
        System.out.println(name + ": " + looked + " looked at, " + wrong + " not as due");
        if (wrong > 0) {
            System.exit(1);
        }
    }

    /** Feeds a text sign by sign and answers what street() does. */
    static int street(SqueakShop shop, String text) {
        for (int i = 0; i < text.length(); i++) {
            shop.feed(text.charAt(i));
        }
        return shop.street();
    }
}
