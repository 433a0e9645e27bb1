/** Section 1 of the document's Terms, THE LAW and the LOOK row: each sentence that names an edge, tested by itself. */
public final class EdgesOfLawTest {
    private static final Due due = new Due("EdgesOfLawTest");
    private static final String FIRST_OF_O = "0123456789stlhnk";
    /** 2^30, so that twice of it is more than an int holds. */
    private static final String BIG = "1024*1024*1024";

    public static void main(String[] args) {
        tapeOf120();
        oneLineOrMore();
        lineForms();
        partsOfE();
        oneComparison();
        digits();
        firstBytes();
        secondBytes();
        noBlanks();
        namesOfAll();
        names();
        sixOpen();
        sixOpenAtOnce();
        wraps();
        towardZero();
        byZero();
        oneOrZero();
        allIsWorkedOut();
        lineThatCounts();
        faults();
        endsTooEarly();
        faultAtTheEdges();
        heldWithin();
        whatItFindsIsOut();
        withoutAText();
        found();
        eachByItsLooker();
        fourCount();
        twoThatIsNone();
        due.end();
    }

    /** LOOKER 1 of SEES 7, TALK 2, LAMP 5, THICK 3. */
    private static StoneInLentils setting() {
        StoneInLentils x = new StoneInLentils();
        x.looker(0);
        x.looker(700);
        x.mend(0, 7, 2);
        x.mend(0, 9, 3);
        return x;
    }

    /** What a text gives with two looks ahead; it is held within 0 .. 12. */
    private static void gives(String text, int twelfths) {
        StoneInLentils x = setting();
        due.is("law " + text, Due.tell(x, text), 1);
        due.is("empty then", x.count(1), 0);
        due.is(text, x.finds(1, 2), twelfths);
    }

    /** What an E gives, beyond 0 .. 12, too. */
    private static void equal(String e, String value) {
        gives("(" + e + ")=" + value, 1);
        gives("(" + e + ")=" + value + "+1", 0);
    }

    /** THE LAW stays as it was, and THE TAPE is empty. */
    private static void fault(String text, int place) {
        StoneInLentils x = setting();
        due.is("the law ahead", Due.tell(x, "11"), 1);
        due.is("law " + text, Due.tell(x, text), -100 - place);
        due.is("empty then", x.count(1), 0);
        due.is("the law stays", x.finds(1, 2), 11);
    }

    /** A text of 119 bytes that gives SEES. */
    private static String longText() {
        StringBuilder text = new StringBuilder("s");
        for (int i = 0; i < 59; i++) text.append("-0");
        return text.toString();
    }

    private static void tapeOf120() {
        due.sentence("THE LAW is a TEXT by THE TAPE (at most 120 bytes)");
        gives("1", 1);
        gives(longText(), 7);
        gives(longText() + "0", 7);
        StoneInLentils x = setting();
        String text = longText() + "1";
        for (int i = 0; i < 120; i++) due.is("feed", x.feed(text.charAt(i)), i + 1);
        due.is("full", x.feed('9'), -3);
        due.is("so many", x.count(1), 120);
        due.is("law", x.law(), 1);
        due.is("what was too much is not in it", x.finds(1, 2), 6);
    }

    private static void oneLineOrMore() {
        due.sentence("LINES, one or more, parted by ;");
        fault("", 0);
        fault(";", 0);
        fault("1;", 2);
        fault(";1", 0);
        fault("1;;1", 2);
        gives("2", 2);
        gives("0?1;2", 2);
        StringBuilder many = new StringBuilder("0?1");
        for (int i = 0; i < 29; i++) many.append(";0?1");
        gives(many.toString(), 0);
        gives(many.substring(0, 115) + ";9", 9);
        StringBuilder most = new StringBuilder("5");
        for (int i = 0; i < 59; i++) most.append(";6");
        gives(most.toString(), 5);
    }

    private static void lineForms() {
        due.sentence("LINE: E, or E ? E (what counts if the first is not 0)");
        gives("3", 3);
        gives("1?3", 3);
        gives("0?3", 0);
        gives("-1?3", 3);
        fault("?3", 0);
        fault("1?", 2);
        fault("1??3", 2);
        fault("1?2?3", 3);
        fault("(1?2)", 2);
        fault("1?(2?3)", 4);
        fault("(1;2)", 2);
    }

    private static void partsOfE() {
        due.sentence("E = A { | A }. A = B { & B }. B = S, or S < S, S = S, S > S. S = P { + P, - P }. P = O { * O, / O, % O }.");
        gives("1|0&0", 1);
        gives("0&0|1", 1);
        gives("0|0&1|0", 0);
        gives("0&1<2", 0);
        gives("2&1<2", 1);
        gives("2<1+2", 1);
        gives("2+1<2", 0);
        gives("2+3*2", 8);
        gives("9-2-3", 4);
        gives("9-2+3", 10);
        gives("9/2*2", 8);
        gives("7%4*3", 9);
        gives("1?0|5", 1);
        gives("0|1?4", 4);
        gives("1?9-2-3", 4);
        gives("(0|5)+(2=2)", 2);
        gives("!0+1", 2);
        gives("-1+3", 2);
        gives("-2*-3", 6);
        gives("1--2", 3);
    }

    private static void oneComparison() {
        due.sentence("B = S, or S < S, S = S, S > S");
        fault("1<2<3", 3);
        fault("1<2=3", 3);
        fault("1=2>3", 3);
        fault("1>2>3", 3);
        fault("(1<2<3)", 4);
        gives("(1<2)<3", 1);
        gives("1<2&2<3", 1);
        gives("1<2|5<3", 1);
        fault("1<", 2);
        fault("<1", 0);
        fault("1<=2", 2);
    }

    private static void digits() {
        due.sentence("O = a number (1 to 4 digits)");
        gives("7", 7);
        gives("07", 7);
        gives("007", 7);
        gives("0007", 7);
        fault("00007", 4);
        fault("12345", 4);
        fault("s+99999", 6);
        fault("(10000)", 5);
        equal("9999", "9999");
        equal("0000", "0");
    }

    private static void firstBytes() {
        due.sentence("a number (1 to 4 digits), a NAME, ! O, - O, ( E )");
        for (int b = 0; b < 256; b++) {
            StoneInLentils x = new StoneInLentils();
            due.is("feed", x.feed(b), 1);
            boolean isWhole = FIRST_OF_O.indexOf((char) b) >= 0;
            boolean begins = b == '!' || b == '-' || b == '(';
            due.is("byte " + b, x.law(), isWhole ? 1 : begins ? -101 : -100);
        }
    }

    private static void secondBytes() {
        due.sentence("E = A { | A }. A = B { & B }.");
        for (int b = 0; b < 256; b++) {
            StoneInLentils x = new StoneInLentils();
            x.feed('s');
            x.feed(b);
            x.feed('1');
            due.is("s, byte " + b + ", 1", x.law(), "|&<=>+-*/%?;".indexOf((char) b) >= 0 ? 1 : -101);
        }
    }

    private static void noBlanks() {
        due.sentence("No blanks.");
        fault(" ", 0);
        fault(" 1", 0);
        fault("1 ", 1);
        fault("1 +1", 1);
        fault("1+ 1", 2);
        fault("( 1)", 1);
        fault("(1 )", 2);
        fault("1\t", 1);
        fault("1;\n2", 2);
        fault("1? 2", 2);
        fault("1 2", 1);
    }

    private static void namesOfAll() {
        due.sentence("NAMES: s SEES, t TALK, l LAMP, h THICK");
        int[] whats = {5, 7, 8, 9};
        int[] least = {0, 0, 0, 1};
        int[] greatest = {12, 9, 9, 9};
        for (int i = 0; i < 4; i++) {
            StoneInLentils x = new StoneInLentils();
            x.looker(600);
            for (int what : whats) x.mend(0, what, 3);
            Due.tell(x, "stlh".substring(i, i + 1));
            for (int v = least[i]; v <= greatest[i]; v++) {
                x.mend(0, whats[i], v);
                due.is("by " + v, x.finds(0, 0), v);
            }
        }
    }

    private static void names() {
        due.sentence("n how many looks the bag had ahead, k the LOOKER");
        StoneInLentils x = new StoneInLentils();
        for (int who = 0; who < 6; who++) x.looker(0);
        Due.tell(x, "k");
        for (int who = 0; who < 6; who++) due.is("k", x.finds(who, 0), who);
        Due.tell(x, "n");
        for (int n = 0; n < 10; n++) due.is("n", x.finds(0, n), n);
        fault("S", 0);
        fault("N", 0);
        fault("sk", 1);
    }

    private static void sixOpen() {
        due.sentence("At most 6 of ( ! - ahead of an O are open");
        gives("((((((8))))))", 8);
        fault("(((((((8)))))))", 6);
        gives("!!!!!!8", 1);
        fault("!!!!!!!8", 6);
        gives("------8", 8);
        fault("-------8", 6);
        gives("(!-(!-8))", 1);
        fault("(!-(!-(8)))", 6);
        fault("(!-(!-!8))", 6);
        fault("(!-(!--8))", 6);
        fault("(((((((", 6);
        fault("((((((", 6);
    }

    private static void sixOpenAtOnce() {
        due.sentence("are open at once");
        gives("((((((1))))))+((((((1))))))", 2);
        fault("((((((1))))))+(((((((1)))))))", 20);
        gives("!!!!!!1+------1", 2);
        gives("-(-(-(3-4)))", 1);
        gives("((((((9-8-1))))))", 0);
        fault("((((((9--8))))))", 8);
        gives("(((((9+!0)))))", 10);
        fault("(((((9+!!0)))))", 8);
        gives("(((((1)+!(1)))))", 1);
        fault("(((((1)+!((1))))))", 10);
        gives("((((((1))))))?((((((4))))));((((((5))))))", 4);
    }

    private static void wraps() {
        due.sentence("Ints that wrap");
        gives(BIG + ">0", 1);
        gives(BIG + "*2<0", 1);
        gives(BIG + "+" + BIG + "<0", 1);
        gives("-" + BIG + "-" + BIG + "-1>0", 1);
        gives(BIG + "*2-1>0", 1);
        gives(BIG + "*4=0", 1);
        gives("-(" + BIG + "*2)<0", 1);
        gives("-(" + BIG + "*2)=" + BIG + "*2", 1);
        gives(BIG + "*2/-1=" + BIG + "*2", 1);
        gives(BIG + "*2%-1", 0);
        gives(BIG + "*4+7", 7);
        // 9999 by 9999 is 99980001, by 99 then 9898020099, less 2 of 2^32: 1308085507
        gives("9999*9999*99%1000=507", 1);
    }

    private static void towardZero() {
        due.sentence("/ and % toward 0");
        equal("7/2", "3");
        equal("-7/2", "-3");
        equal("7/-2", "-3");
        equal("-7/-2", "3");
        equal("7%2", "1");
        equal("-7%2", "-1");
        equal("7%-2", "1");
        equal("-7%-2", "-1");
        equal("-1/2", "0");
        equal("1/2", "0");
    }

    private static void byZero() {
        due.sentence("by 0 they give 0");
        equal("5/0", "0");
        equal("5%0", "0");
        equal("0/0", "0");
        equal("0%0", "0");
        equal("-5/0", "0");
        equal("5/(s-s)", "0");
        equal("5%(s-7)", "0");
        equal("5/0*7+2", "2");
        gives(BIG + "*2/0", 0);
        gives(BIG + "*2%0", 0);
    }

    private static void oneOrZero() {
        due.sentence("| & < = > ! give 1, 0");
        for (String e : new String[] {"5|0", "0|5", "5|7", "-1|0", "5&7", "-1&-1", "2&1", "1<2", "2=2", "3>2", "-1<0", "0>-1", "!0", "!!9"}) {
            equal(e, "1");
        }
        for (String e : new String[] {"0|0", "0&7", "7&0", "0&0", "2<2", "3<2", "2=3", "2>2", "2>3", "!5", "!-1", "!1"}) {
            equal(e, "0");
        }
    }

    private static void allIsWorkedOut() {
        due.sentence("all is worked out");
        gives("1|1/0", 1);
        gives("0&1%0", 0);
        gives("0?1/0;5", 5);
        gives("1?5;1/0", 5);
        gives("7;1/0", 7);
    }

    private static void lineThatCounts() {
        due.sentence("The first LINE without a first E, or whose first E is not 0, counts; none: 0");
        gives("5;6", 5);
        gives("0;6", 0);
        gives("0?4;5;6", 5);
        gives("1?4;5;6", 4);
        gives("0?4;1?5;6", 5);
        gives("0?4;0?5;6", 6);
        gives("2?0;5", 0);
        gives("0-1?4;5", 4);
        gives("0?4", 0);
        gives("0?4;0?5", 0);
        gives("s-7?4;s-6?5;6", 5);
    }

    private static void faults() {
        due.sentence("FAULT: the place (from 0) of the first byte with which no TEXT goes on");
        String[] texts = {"x", "1x", "1x2y", "ss", "s1", "1s", "1(", "1!", "1)", "()", "(1))", "(1)(2)", "1+*2", "1++2", "1&&1", "1||1",
            "1==1", "1<>2", "1*/2", "1%%2", "!+1", "-*1", "(+1)", "1?;2", "1?2<3<4", "1;2;3x", "s*(t+l", "s*(t+l))", "1=!", "1.5", "1,2"};
        int[] places = {0, 1, 1, 1, 1, 1, 1, 1, 1, 1, 3, 3, 2, 2, 2, 2,
            2, 2, 2, 2, 1, 1, 1, 2, 5, 5, 6, 7, 3, 1, 1};
        for (int i = 0; i < texts.length; i++) fault(texts[i], places[i]);
    }

    private static void endsTooEarly() {
        due.sentence("the length, if it ends too early");
        for (String text : new String[] {"", "!", "-", "(", "1+", "1-", "1*", "1/", "1%", "1<", "1=", "1>", "1&", "1|", "1?", "1;", "1?2;",
            "(1", "(1+", "((1)", "!(", "-!", "1?(", "1?2+", "0?1;(2"}) {
            fault(text, text.length());
        }
    }

    private static void faultAtTheEdges() {
        due.sentence("-100 less its FAULT");
        fault("x" + longText(), 0);
        fault(longText() + "x", 119);
        fault(longText() + "-", 120);
        StoneInLentils x = new StoneInLentils();
        due.is("an empty one", x.law(), -100);
        for (int i = 0; i < 120; i++) x.feed(255);
        due.is("the first of 120", x.law(), -100);
        due.is("empty then", x.law(), -100);
        x.looker(900);
        due.is("there is still no text", x.finds(0, 0), 9);
    }

    private static void heldWithin() {
        due.sentence("In so many of twelve (held within 0 .. 12)");
        gives("0", 0);
        gives("0-1", 0);
        gives("-9999", 0);
        gives("11", 11);
        gives("12", 12);
        gives("13", 12);
        gives("9999", 12);
        gives(BIG + "*2", 0);
        gives(BIG + "*2-1", 12);
        StoneInLentils x = setting();
        Due.weights(x, 0, 0, 1, 0, 0);
        Due.bytes(x, 0, 1, 1);
        Due.tell(x, "13");
        due.is("it is found for sure", x.mean(0, 0, 2, 0), 1);
        due.is("it is found for sure", x.worth(0, 1, 0), 0);
        Due.tell(x, "-1");
        due.is("it cannot be found", x.mean(0, 0, 2, 0), 0);
        Due.bytes(x, 0);
        due.is("it is worth nothing, not less", x.worth(0, 1, 0), 0);
    }

    private static void whatItFindsIsOut() {
        due.sentence("each STONE for itself; what it finds is out");
        StoneInLentils x = new StoneInLentils();
        x.looker(600);
        Due.weights(x, 0, 0, 0, 0, 1);
        for (int found = 0; found < 4; found++) {
            Due.bytes(x, 0, 0, found);
            // 1, 3, 3, 1 of 8
            due.is("likely", x.mean(0, 0, 2, 0), found == 0 || found == 3 ? 1 : 3);
            due.is("likely", x.mean(0, 0, 2, 1), 8);
            for (int j = 0; j < 4; j++) due.is("left", x.left(0, 0, j, 0), j == 3 - found ? 1 : 0);
        }
        Due.bytes(x, 0, 0, 3, 0, 0);
        due.is("none is left to find", x.mean(0, 0, 2, 0), 1);
        due.is("none is left to find", x.mean(0, 0, 2, 1), 8);
        Due.bytes(x, 0, 0, 2, 0, 2);
        due.is("one alone is left", x.mean(0, 0, 2, 0), 0);
        Due.weights(x, 0, 0, 0, 1, 0);
        for (int found = 0; found < 3; found++) {
            Due.bytes(x, 0, 0, found);
            // 1, 2, 1 of 4
            due.is("likely of two", x.mean(0, 0, 2, 1), found == 1 ? 2 : 4);
            for (int j = 0; j < 4; j++) due.is("left of two", x.left(0, 0, j, 0), j == 2 - found ? 1 : 0);
        }
        Due.weights(x, 0, 0, 1, 1, 0);
        Due.bytes(x, 0, 0, 1);
        // 1/2 of one and 1/2 of two
        due.is("of one or two", x.left(0, 0, 0, 1), 2);
        Due.bytes(x, 0, 0, 0);
        // 1/2 of one and 1/4 of two
        due.is("of one or two", x.left(0, 0, 1, 1), 3);
    }

    private static void withoutAText() {
        due.sentence("Without a text: SEES less TALK less THICK and 1.");
        int[][] cases = {{12, 0, 1, 12}, {0, 0, 1, 0}, {12, 9, 1, 3}, {12, 3, 9, 1}, {12, 4, 9, 0}, {12, 5, 9, 0}, {12, 9, 9, 0}, {0, 9, 9, 0},
            {1, 0, 1, 1}, {1, 1, 1, 0}, {1, 0, 2, 0}, {9, 0, 9, 1}};
        for (int[] c : cases) {
            StoneInLentils x = new StoneInLentils();
            x.looker(100 * c[0]);
            x.mend(0, 7, c[1]);
            x.mend(0, 9, c[2]);
            for (int lamp = 0; lamp < 10; lamp += 9) {
                x.mend(0, 8, lamp);
                for (int n = 0; n < 10; n += 9) due.is("finds", x.finds(0, n), c[3]);
            }
        }
    }

    /** One BAG of none or one STONE, LOOKER 0 who finds by half. */
    private static StoneInLentils halves() {
        StoneInLentils x = new StoneInLentils();
        x.looker(600);
        Due.weights(x, 0, 1, 1, 0, 0);
        return x;
    }

    /** None found by so many looks of a half: 2^looks to 1 that none is left. */
    private static void counts(StoneInLentils x, int looks, int... row) {
        Due.bytes(x, 0, row);
        due.is("none left", x.left(0, 0, 0, 0), 1 << looks);
        due.is("none left", x.left(0, 0, 0, 1), (1 << looks) + 1);
    }

    private static void found() {
        due.sentence("bytes by twos a LOOKER, FOUND (0 .. 3)");
        StoneInLentils x = new StoneInLentils();
        x.looker(600);
        Due.weights(x, 0, 0, 0, 0, 1);
        for (int found = 0; found < 4; found++) {
            Due.bytes(x, 0, 0, found);
            due.is("it is a look", x.left(0, 0, 3 - found, 0), 1);
        }
        for (int none : new int[] {-1, 4, 127, -128}) {
            Due.bytes(x, 0, 0, none);
            due.is("it is no look", x.left(0, 0, 3, 0), 1);
            due.is("it is no look", x.mean(0, 0, 2, 1), 1);
        }
    }

    private static void eachByItsLooker() {
        due.sentence("looks through one BAG one after the other");
        StoneInLentils x = new StoneInLentils();
        for (int who = 0; who < 6; who++) x.looker(200 * who);
        Due.weights(x, 0, 1, 1, 0, 0);
        // none, 12 of twelve, against one not found, 12 less 2 who
        int[] above = {1, 6, 3, 2, 3, 6};
        int[] below = {2, 11, 5, 3, 4, 7};
        for (int who = 0; who < 6; who++) {
            Due.bytes(x, 0, who, 0);
            due.is("by " + who, x.left(0, 0, 0, 0), above[who]);
            due.is("by " + who, x.left(0, 0, 0, 1), below[who]);
        }
        Due.bytes(x, 0, 0, 0, 3, 0, 0, 0, 3, 0);
        due.is("two of four by half", x.left(0, 0, 0, 0), 4);
        due.is("two of four by half", x.left(0, 0, 0, 1), 5);
        Due.bytes(x, 0, 3, 0, 0, 1);
        due.is("looker 0 finds none", x.left(0, 0, 0, 0), -2);
        Due.bytes(x, 0, 0, 0, 3, 1);
        due.is("looker 3 finds it", x.mean(0, 0, 2, 1), 4);
        Due.tell(x, "k*10+n");
        Due.bytes(x, 0, 0, 0, 1, 1);
        // 0 of twelve, then 11
        due.is("n goes on with another looker", x.mean(0, 0, 2, 0), 11);
        due.is("n goes on with another looker", x.mean(0, 0, 2, 1), 24);
    }

    private static void fourCount() {
        due.sentence("(4 count");
        StoneInLentils x = halves();
        for (int size = 0; size <= 12; size++) counts(x, Math.min(4, size / 2), new int[size]);
        counts(x, 4, new int[60]);
        counts(x, 4, 0, 0, 0, 0, 0, 0, 0, 0, 0, 1);
        counts(x, 4, 0, 0, 0, 0, 0, 0, 0, 0, 9, 9);
        Due.tell(x, "n=4?12;0");
        Due.bytes(x, 0, new int[12]);
        due.is("one more look has four ahead: 50 less 0", x.worth(0, 0, 0), 50);
        due.is("next", x.next(0, 0), 0);
    }

    private static void twoThatIsNone() {
        due.sentence("a two that is none ends it)");
        StoneInLentils x = halves();
        int[][] none = {{1, 0}, {-1, 0}, {6, 0}, {127, 0}, {-128, 0}, {0, 4}, {0, -1}, {0, 127}, {0, -128}};
        for (int[] two : none) {
            counts(x, 0, two[0], two[1], 0, 0);
            counts(x, 1, 0, 0, two[0], two[1], 0, 0);
            counts(x, 3, 0, 0, 0, 0, 0, 0, two[0], two[1], 0, 0);
        }
        counts(x, 0, 0);
        counts(x, 1, 0, 0, 0);
        counts(x, 3, 0, 0, 0, 0, 0, 0, 0);
        x.looker(600);
        counts(x, 2, 1, 0, 0, 0);
    }
}
