/** Counts the answers that are not as due; shared by all tests of the project. */
final class Due {
    static final long NONE = Long.MIN_VALUE;
    private final String name;
    private int asked = 0;
    private int wrong = 0;

    Due(String name) {
        this.name = name;
    }

    void is(String call, long got, long want) {
        asked++;
        if (got == want) return;
        wrong++;
        if (wrong <= 40) System.out.println(name + ": " + call + " answered " + got + ", due is " + want);
    }

    void holds(String what, boolean does) {
        is(what, does ? 1 : 0, 1);
    }

    void end() {
        System.out.println(name + ": " + asked + " answers, " + wrong + " not as due");
        if (wrong != 0) System.exit(1);
    }

    /** Feeds a text and makes it THE LAW: what law() answers. */
    static int tell(StoneInLentils x, String text) {
        for (int i = 0; i < text.length(); i++) x.feed(text.charAt(i));
        return x.law();
    }

    /** A ROW of bytes on a SHELF. */
    static void bytes(StoneInLentils x, int shelf, int... values) {
        x.row(shelf, 0, values.length);
        for (int i = 0; i < values.length; i++) x.put(shelf, i, values[i]);
    }
}
