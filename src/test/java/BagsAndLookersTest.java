/** Promises 1 to 8: a new object, lookers, the numbers, THE TAPE, THE LAW. */
public final class BagsAndLookersTest {
    private static final Due due = new Due("BagsAndLookersTest");

    public static void main(String[] args) {
        aNewObject();
        looker();
        lookers();
        mendAndOf();
        feed();
        lawsThatAreTexts();
        lawsWithAFault();
        finds();
        due.end();
    }

    private static void aNewObject() {
        StoneInLentils x = new StoneInLentils();
        for (int bag = 0; bag < 4; bag++) {
            for (int j = 0; j < 4; j++) due.is("1: weight " + j, x.of(bag, j), 1);
            due.is("1: price", x.of(bag, 4), 10);
        }
        int[] first = {0, 5, 1, 100, 4};
        for (int i = 0; i < 5; i++) due.is("1: of(0, " + (7 + i) + ")", x.of(0, 7 + i), first[i]);
        for (int i = 0; i < 5; i++) due.is("1: count", x.count(i), 0);
        for (int i = 0; i < 5; i++) due.is("1: led", x.led(i), 0);
        for (int i = 0; i < 6; i++) due.is("1: a shelf", x.taken(i, 0), -11);
    }

    private static void looker() {
        StoneInLentils x = new StoneInLentils();
        int[] wrong = {-1, -100, Integer.MIN_VALUE, 1300, 1399, Integer.MAX_VALUE};
        for (int sc : wrong) due.is("2: looker(" + sc + ")", x.looker(sc), -1);
        int[] right = {0, 1299, 605, 99, 100, 1200};
        for (int i = 0; i < 6; i++) due.is("2: looker", x.looker(right[i]), i);
        for (int i = 0; i < 6; i++) {
            due.is("2: sees", x.of(i, 5), right[i] / 100);
            due.is("2: cost", x.of(i, 6), right[i] % 100);
        }
        due.is("2: full", x.looker(605), -3);
        due.is("2: BAD ahead of FULL", x.looker(1300), -1);
        due.is("2: six came", x.count(0), 6);
        due.is("2: a looker is no change", x.count(2), 0);
    }

    private static void lookers() {
        StoneInLentils x = new StoneInLentils();
        Due.bytes(x, 0, 1, 2, 3, 4, 5);
        due.is("3: shelf -1", x.lookers(-1, 0, 1), -1);
        due.is("3: shelf 6", x.lookers(6, 0, 1), -1);
        due.is("3: n 0", x.lookers(0, 0, 0), -1);
        due.is("3: n 7", x.lookers(0, 0, 7), -1);
        due.is("3: nothing is missing", x.lookers(1, 0, 1), 0);
        due.is("3: a place behind", x.lookers(0, 5, 1), 0);
        due.is("3: a place far behind", x.lookers(0, Integer.MAX_VALUE, 6), 0);
        due.is("3: a place ahead", x.lookers(0, -1, 2), 0);
        due.is("3: it ends within a two", x.lookers(0, 0, 6), 2);
        due.is("3: sees", x.of(1, 5), 3);
        due.is("3: cost", x.of(1, 6), 4);
        due.is("3: from place 3", x.lookers(0, 3, 1), 1);
        due.is("3: sees", x.of(2, 5), 4);
        due.is("3: cost", x.of(2, 6), 5);
        due.is("3: n alone", x.lookers(0, 0, 1), 1);
        Due.bytes(x, 2, 1, 1, 12, 100, 2, 2);
        due.is("3: one is not as it may be", x.lookers(2, 0, 3), 1);
        Due.bytes(x, 3, -1, 1);
        due.is("3: below 0", x.lookers(3, 0, 1), 0);
        x.put(3, 0, 1);
        x.put(3, 1, -1);
        due.is("3: below 0", x.lookers(3, 0, 1), 0);
        Due.bytes(x, 4, 1, 1, 2, 2);
        due.is("3: full within", x.lookers(4, 0, 2), 1);
        due.is("3: full", x.lookers(4, 0, 2), 0);
        for (int sort = 1; sort < 5; sort++) {
            x.row(5, sort, 4);
            due.is("3: another sort", x.lookers(5, 0, 1), -12);
        }
        x.body(0);
        x.keep(5, 0);
        due.is("3: a body", x.lookers(5, 0, 1), -12);
        due.is("3: BAD ahead of -12", x.lookers(5, 0, 0), -1);
    }

    private static void mendAndOf() {
        int[] least = {0, 0, 0, 0, 0, 0, 0, 0, 0, 1, 0, 0};
        int[] greatest = {9, 9, 9, 9, 99, 12, 99, 9, 9, 9, 999, 12};
        StoneInLentils x = new StoneInLentils();
        due.is("4: no looker yet", x.mend(0, 5, 1), -1);
        due.is("5: no looker yet", x.of(0, 6), -1);
        x.looker(605);
        x.looker(703);
        for (int what = 0; what < 12; what++) {
            int numbers = what < 5 ? 4 : what < 7 ? 2 : 1;
            for (int number = 0; number < numbers; number++) {
                int was = x.of(number, what);
                due.is("4: below", x.mend(number, what, least[what] - 1), -1);
                due.is("4: above", x.mend(number, what, greatest[what] + 1), -1);
                due.is("4: least", x.mend(number, what, least[what]), was);
                due.is("4: greatest", x.mend(number, what, greatest[what]), least[what]);
                due.is("5: of", x.of(number, what), greatest[what]);
                x.mend(number, what, was);
            }
            due.is("4: no such number", x.mend(numbers, what, 1), -1);
            due.is("4: no such number", x.mend(-1, what, 1), -1);
            due.is("5: no such number", x.of(numbers, what), -1);
            due.is("5: no such number", x.of(-1, what), -1);
        }
        due.is("4: no such what", x.mend(0, 12, 1), -1);
        due.is("4: no such what", x.mend(0, -1, 1), -1);
        due.is("5: no such what", x.of(0, 12), -1);
        due.is("5: no such what", x.of(0, -1), -1);
        x.mend(2, 3, 7);
        due.is("4: one bag alone", x.of(1, 3), 1);
        due.is("4: one bag alone", x.of(3, 3), 1);
    }

    private static void feed() {
        StoneInLentils x = new StoneInLentils();
        due.is("6: -1", x.feed(-1), -1);
        due.is("6: 256", x.feed(256), -1);
        for (int i = 1; i <= 120; i++) due.is("6: feed", x.feed(i % 2 == 0 ? 255 : 0), i);
        due.is("6: full", x.feed('1'), -3);
        due.is("6: BAD ahead of FULL", x.feed(256), -1);
        due.is("6: count", x.count(1), 120);
        due.is("7: the first byte", x.law(), -100);
        due.is("7: the tape is empty then", x.count(1), 0);
    }

    /** What a text gives for a looker of SEES 7 who is number 1, TALK 2, LAMP 5, THICK 3, two looks ahead. */
    private static int worked(String text) {
        StoneInLentils x = new StoneInLentils();
        x.looker(0);
        x.looker(700);
        x.mend(0, 7, 2);
        x.mend(0, 9, 3);
        due.is("7: law " + text, Due.tell(x, text), 1);
        due.is("7: the tape is empty then", x.count(1), 0);
        return x.finds(1, 2);
    }

    private static void gives(String text, int twelfths) {
        due.is("7: " + text, worked(text), Math.max(0, Math.min(12, twelfths)));
    }

    private static void lawsThatAreTexts() {
        gives("s", 7);
        gives("t", 2);
        gives("l", 5);
        gives("h", 3);
        gives("n", 2);
        gives("k", 1);
        gives("11", 11);
        gives("0012", 12);
        gives("9999", 12);
        gives("0-5", 0);
        gives("-5+9", 4);
        gives("--7", 7);
        gives("!0", 1);
        gives("!7", 0);
        gives("!!7", 1);
        gives("-!-0+3", 2);
        gives("1+2*3", 7);
        gives("(1+2)*3", 9);
        gives("10-2-3", 5);
        gives("100/5/4", 5);
        gives("100/7%5", 4);
        gives("2*3%4", 2);
        gives("7/0+1", 1);
        gives("7%0+2", 2);
        gives("-7/2+8", 5);
        gives("-7%4+8", 5);
        gives("1<2", 1);
        gives("2<1", 0);
        gives("2=2", 1);
        gives("2=3", 0);
        gives("3>2", 1);
        gives("2>3", 0);
        gives("1+1=2", 1);
        gives("2>1+1", 0);
        gives("0|0", 0);
        gives("0|5", 1);
        gives("7&8", 1);
        gives("7&0", 0);
        gives("1|0&0", 1);
        gives("(1|0)&0", 0);
        gives("0?5;7", 7);
        gives("1?5;7", 5);
        gives("0?5", 0);
        gives("0?5;0?6", 0);
        gives("s>6?n;1", 2);
        gives("s>7?n;1", 1);
        gives("2<1|3?4;5", 4);
        gives("9;3", 9);
        gives("0;3", 0);
        gives("1?2;3;4", 2);
        gives("-1?4;5", 4);
        gives("((((((8))))))", 8);
        gives("!!!!!!1+4", 5);
        gives("-(-(--7))", 7);
        gives("(1)+(2)+(3)", 6);
        gives("1<2&2<3", 1);
        gives("(1=1)=0|1", 1);
        gives("!s=0", 1);
        gives("-s<0", 1);
        gives("9999*9999*9999%13+6", 9999 * 9999 * 9999 % 13 + 6);
        gives("9999*9999*9999/9999/9999+9", 9999 * 9999 * 9999 / 9999 / 9999 + 9);
        // 8^10 by 2 is 2^31
        gives("(0-8*8*8*8*8*8*8*8*8*8*2)/-1<0", 1);
        gives("(0-8*8*8*8*8*8*8*8*8*8*2)%-1+5", 5);
        StringBuilder longest = new StringBuilder("1");
        for (int i = 0; i < 59; i++) longest.append(i < 8 ? "+1" : "*1");
        gives(longest.toString(), 9);
        gives("0" + longest, 9);
    }

    private static void lawsWithAFault() {
        String[] texts = {"", "x", "1+", "1++2", "1 +2", "12345", "1234s", "s1", "ss", "(1", "(1))", "()", "1;", ";1", "1?",
            "1?2?3", "1?2;", "?1", "1<2<3", "1=2>3", "(1?2)", "!", "-", "1-", "(((((((1", "((((((1))))))", "!!!!!!!1", "(!-(!-(1",
            "(!-(!-1)))", "1&&2", "1||2", "s*", "S", "1;;2", "1.", "(1)(2)", "1!", "1(", "((((((1))))))+(((((((1"};
        int[] faults = {0, 0, 2, 2, 1, 4, 4, 1, 1, 2, 3, 1, 2, 0, 2,
            3, 4, 0, 3, 3, 2, 1, 1, 2, 6, -101, 6, 6,
            9, 2, 2, 2, 0, 2, 1, 3, 1, 1, 20};
        for (int i = 0; i < texts.length; i++) {
            StoneInLentils x = new StoneInLentils();
            x.looker(600);
            Due.tell(x, "3");
            due.is("7: fault of " + texts[i], Due.tell(x, texts[i]), -100 - faults[i]);
            due.is("7: the tape is empty then", x.count(1), 0);
            due.is("7: the law stays", x.finds(0, 0), faults[i] == -101 ? 1 : 3);
        }
        for (int b = 0; b < 256; b++) {
            StoneInLentils x = new StoneInLentils();
            x.feed('1');
            x.feed(b);
            boolean isDigit = b >= '0' && b <= '9';
            boolean goesOn = b != 0 && b < 128 && "|&<=>+-*/%?;".indexOf((char) b) >= 0;
            due.is("7: 1 and byte " + b, x.law(), isDigit ? 1 : goesOn ? -102 : -101);
        }
        StoneInLentils x = new StoneInLentils();
        for (int i = 0; i < 60; i++) {
            x.feed('1');
            x.feed('+');
        }
        due.is("7: 120 bytes that end too early", x.law(), -220);
    }

    private static void finds() {
        StoneInLentils x = new StoneInLentils();
        due.is("8: nobody", x.finds(0, 0), -1);
        x.looker(600);
        x.looker(1200);
        due.is("8: by no text", x.finds(0, 0), 6);
        x.mend(0, 7, 2);
        due.is("8: talk", x.finds(0, 9), 4);
        x.mend(0, 9, 4);
        due.is("8: thick", x.finds(0, 0), 1);
        x.mend(0, 7, 9);
        due.is("8: not below 0", x.finds(0, 0), 0);
        due.is("8: the other", x.finds(1, 0), 0);
        due.is("8: no such looker", x.finds(2, 0), -1);
        due.is("8: no such looker", x.finds(-1, 0), -1);
        due.is("8: n 10", x.finds(0, 10), -1);
        due.is("8: n -1", x.finds(0, -1), -1);
        Due.tell(x, "n*2+k");
        for (int n = 0; n < 10; n++) due.is("8: n", x.finds(1, n), Math.min(12, 2 * n + 1));
    }
}
