/** Counts the answers that are not as due; shared by all tests of the project. */
final class Due {
    static final long NONE = Long.MIN_VALUE;
    private final String name;
    private String words = "";
    private int sentences = 0;
    private int askedAhead = 0;
    private int asked = 0;
    private int wrong = 0;

    Due(String name) {
        this.name = name;
    }

    /** Begins the test of a sentence of the document: its words, told with each wrong answer. */
    void sentence(String ofDocument) {
        endSentence();
        words = " [" + ofDocument + "]";
        askedAhead = asked;
        sentences++;
    }

    private void endSentence() {
        if (sentences > 0 && asked == askedAhead) holds("something is asked", false);
    }

    void is(String call, long got, long want) {
        asked++;
        if (got == want) return;
        wrong++;
        if (wrong <= 40) System.out.println(name + words + ": " + call + " answered " + got + ", due is " + want);
    }

    void holds(String what, boolean does) {
        is(what, does ? 1 : 0, 1);
    }

    int asked() {
        return asked;
    }

    void end() {
        endSentence();
        String of = sentences > 0 ? sentences + " sentences, " : "";
        System.out.println(name + ": " + of + asked + " answers, " + wrong + " not as due");
        if (wrong != 0) System.exit(1);
    }

    /** Feeds a text and makes it THE LAW: what law() answers. */
    static int tell(StoneInLentils x, String text) {
        for (int i = 0; i < text.length(); i++) x.feed(text.charAt(i));
        return x.law();
    }

    /** A ROW of bytes on a SHELF. */
    static void bytes(StoneInLentils x, int shelf, int... values) {
        x.row(shelf, 0, values.length);
        for (int i = 0; i < values.length; i++) x.put(shelf, i, values[i]);
    }

    /** WEIGHTS of 0, 1, 2, 3 STONES of a BAG. */
    static void weights(StoneInLentils x, int bag, int... weights) {
        for (int j = 0; j < weights.length; j++) x.mend(bag, j, weights[j]);
    }
}
