/** Halls, ROWS and LAWS that the tests begin with. */
final class Scene {
    static final long LEAST = Long.MIN_VALUE;
    static final int BAD = -1, NOT = -2, FULL = -3, STATE = -5, VOID = -2000000000;
    static final int NOTHING = -11, OTHER_KIND = -12, NO_PLACE = -13, NO_SIZE = -14;
    static final int MIN = Integer.MIN_VALUE, MAX = Integer.MAX_VALUE;

    private Scene() {
    }

    /** THE LIST by signs, so many MASKS, and STRANGERS. */
    static BehindTheMask hall(int masks, int strangers, int... signs) {
        BehindTheMask x = new BehindTheMask();
        for (int each : signs) {
            x.person(each);
        }
        for (int i = 0; i < masks; i++) {
            x.mask();
        }
        x.mend(0, 9, strangers);
        return x;
    }

    static void bytes(BehindTheMask x, int shelf, int... values) {
        x.row(shelf, 0, values.length);
        for (int i = 0; i < values.length; i++) {
            x.put(shelf, i, values[i]);
        }
    }

    static int lawOf(BehindTheMask x, String text) {
        for (int i = 0; i < text.length(); i++) {
            x.feed(text.charAt(i));
        }
        return x.law();
    }

    /** BODY n is of KIND n. */
    static BehindTheMask kinds() {
        BehindTheMask x = new BehindTheMask();
        for (int kind = 0; kind < 8; kind++) {
            x.body(kind);
        }
        return x;
    }
}
