/** Promises 21 and 22: told looks, draws. */
public final class ToldTest {
    private static final Due due = new Due("ToldTest");

    public static void main(String[] args) {
        howMany();
        noFound();
        sureBy();
        most();
        drawn();
        foundAsMayBe();
        wrongOnes();
        due.end();
    }

    private static void howMany() {
        StoneInLentils x = new StoneInLentils();
        Due.bytes(x, 0);
        due.is("21: no look told, one row of none", x.who(0, 0, 0, 0), 1);
        Due.bytes(x, 0, 0);
        due.is("21: nobody can have looked", x.who(0, 0, 0, 0), 0);
        x.looker(600);
        x.looker(0);
        x.looker(1200);
        due.is("21: all of them", x.who(0, 0, 0, 0), 3);
        Due.bytes(x, 0, 1);
        due.is("21: looker 1 finds none", x.who(0, 0, 0, 0), 2);
        Due.bytes(x, 0, 1, 1);
        // looker 2 leaves none behind, so it can be last alone
        due.is("21: 0 0 and 0 2", x.who(0, 0, 0, 0), 2);
        Due.bytes(x, 0, 1, 1, 2);
        due.is("21: four were never in", x.who(0, 0, 0, 0), 0);
        Due.bytes(x, 0, 0, 0, 0, 0, 3);
        due.is("21: four count", x.who(0, 0, 0, 0), 81);
        for (int j = 0; j < 4; j++) x.mend(1, j, 0);
        Due.bytes(x, 0, 1);
        due.is("21: no stone may be in", x.who(0, 1, 0, 0), 0);
        due.is("21: SURE BY of no row", x.who(0, 1, 1, 0), 0);
        due.is("21: MOST of no row", x.who(0, 1, 2, 0), -2);
    }

    /** A TOLD row ends at the first byte that is no FOUND: neither it nor what stands behind it is a look. */
    private static void noFound() {
        StoneInLentils x = new StoneInLentils();
        Due.bytes(x, 0, -1);
        due.is("21: no look is told, so nobody need be there", x.who(0, 0, 0, 0), 1);
        for (int lookers = 1; lookers <= 6; lookers++) {
            x.looker(100 * lookers);
            for (int none : new int[] {-1, 4, 127, -128}) {
                Due.bytes(x, 0, none, 1);
                due.is("21: one row of no looks, by " + none, x.who(0, 0, 0, 0), 1);
                due.is("21: k is not asked for", x.who(0, 0, 0, 9), 1);
                for (int k = 0; k < 4; k++) {
                    due.is("21: no such k", x.who(0, 0, 1, k), -1);
                    due.is("21: no such k", x.who(0, 0, 2, k), -1);
                }
            }
        }
        endsBehindOne();
        endsBehindMore();
    }

    private static void endsBehindOne() {
        StoneInLentils x = new StoneInLentils();
        x.looker(0);
        x.looker(600);
        x.looker(900);
        Due.bytes(x, 0, 3, -1, 3, 3, 3);
        due.is("21: the one look ahead of it counts", x.who(0, 0, 0, 0), 2);
        due.is("21: by 1 or 2", x.who(0, 0, 1, 0), 0);
        due.is("21: likeliest by 2", x.who(0, 0, 2, 0), 2);
        due.is("21: it is no look", x.who(0, 0, 1, 1), -1);
        due.is("21: it is no look", x.who(0, 0, 2, 1), -1);
        due.is("21: nor is what stands behind it", x.who(0, 0, 2, 2), -1);
        x.mend(1, 5, 0);
        due.is("21: sure by 2", x.who(0, 0, 1, 0), 4);
        x.mend(0, 3, 0);
        due.is("21: what is ahead of it must be likely", x.who(0, 0, 0, 0), 0);
        due.is("21: MOST of no row", x.who(0, 0, 2, 0), -2);
        due.is("21: no such k, of no row too", x.who(0, 0, 2, 1), -1);
    }

    private static void endsBehindMore() {
        StoneInLentils x = new StoneInLentils();
        x.looker(300);
        x.looker(600);
        Due.bytes(x, 0, 0, 0, 4, 0);
        due.is("21: two looks", x.who(0, 0, 0, 0), 4);
        Due.bytes(x, 0, 0, 0, 0, 4, 0);
        due.is("21: three looks", x.who(0, 0, 0, 0), 8);
        due.is("21: likeliest by 0", x.who(0, 0, 2, 2), 0);
        due.is("21: no fourth", x.who(0, 0, 2, 3), -1);
        Due.bytes(x, 0, 0, 0, 0, 0, 4);
        due.is("21: four count, the fifth is not looked at", x.who(0, 0, 0, 0), 16);
    }

    private static void sureBy() {
        StoneInLentils x = new StoneInLentils();
        x.looker(600);
        x.looker(0);
        x.looker(1200);
        Due.bytes(x, 0, 1, 1);
        due.is("21: sure by 0", x.who(0, 0, 1, 0), 1);
        due.is("21: by 0 or 2", x.who(0, 0, 1, 1), 0);
        Due.tell(x, "k=2&n=1?12;0");
        Due.bytes(x, 0, 0, 2);
        due.is("21: by the law", x.who(0, 0, 0, 0), 3);
        due.is("21: anybody", x.who(0, 0, 1, 0), 0);
        due.is("21: sure by 2", x.who(0, 0, 1, 1), 4);
    }

    private static void most() {
        StoneInLentils x = new StoneInLentils();
        x.looker(600);
        x.looker(300);
        x.looker(900);
        x.mend(0, 2, 0);
        x.mend(0, 3, 0);
        Due.bytes(x, 0, 1);
        due.is("21: who finds most", x.who(0, 0, 2, 0), 2);
        Due.bytes(x, 0, 0);
        due.is("21: who finds least", x.who(0, 0, 2, 0), 1);
        x.mend(0, 0, 9);
        Due.bytes(x, 0, 1);
        due.is("21: asked behind what is likelier", x.who(0, 0, 2, 0), 2);
        x.mend(0, 0, 1);
        Due.bytes(x, 0, 0, 1, 0, 0);
        due.is("21: ahead of it", x.who(0, 0, 2, 0), 1);
        due.is("21: it", x.who(0, 0, 2, 1), 2);
        due.is("21: of like ones the first", x.who(0, 0, 2, 2), 0);
        due.is("21: of like ones the first", x.who(0, 0, 2, 3), 0);
        due.is("21: any", x.who(0, 0, 0, 3), 81);
    }

    /** The draws told again, with long remainders in the place of ints that wrap. */
    private static void drawn() {
        StoneInLentils x = new StoneInLentils();
        x.looker(603);
        x.looker(407);
        x.mend(1, 0, 2);
        x.mend(1, 2, 5);
        x.mend(1, 3, 0);
        Due.bytes(x, 0, 1, 0, 0, 3, 1, 1);
        int[] weights = {2, 1, 5, 0};
        for (int seed : new int[] {0, 1, 7, -1, 123456789, Integer.MIN_VALUE, Integer.MAX_VALUE}) {
            long z = seed & 0xffffffffL;
            int left = 0;
            for (int n = 1; n <= 30; n++) {
                z = (z * 1103515245L + 12345) & 0xffffffffL;
                long over = (z >> 8) % 8;
                int stones = over < 2 ? 0 : over < 3 ? 1 : 2;
                for (int share : new int[] {4, 6, 4}) {
                    int found = 0;
                    for (int i = 0; i < stones; i++) {
                        z = (z * 1103515245L + 12345) & 0xffffffffL;
                        if ((z >> 8) % 12 < share) found++;
                    }
                    stones -= found;
                }
                left += stones;
                due.is("22: left of " + n, x.drawn(0, seed, 100 + n, 0), left);
                due.is("22: costs of " + n, x.drawn(0, seed, 100 + n, 1), n * 17 + 100 * left);
            }
        }
        due.is("22: weights", weights[2], x.of(1, 2));
        for (int j = 0; j < 4; j++) x.mend(2, j, 0);
        due.is("22: no stones", x.drawn(0, 5, 230, 0), 0);
        due.is("22: no stones", x.drawn(0, 5, 230, 1), 510);
        Due.bytes(x, 1);
        for (int j = 0; j < 3; j++) x.mend(3, j, 0);
        due.is("22: three each", x.drawn(1, 5, 330, 0), 90);
        due.is("22: three each", x.drawn(1, 5, 330, 1), 9000);
        Due.tell(x, "n=2?12;0");
        Due.bytes(x, 1, 0, 0, 0, 0);
        due.is("22: two looks", x.drawn(1, 5, 301, 0), 3);
        Due.bytes(x, 1, 0, 0, 0, 0, 0, 0);
        due.is("22: the third has two ahead", x.drawn(1, 5, 301, 0), 0);
    }

    private static void foundAsMayBe() {
        StoneInLentils x = new StoneInLentils();
        x.looker(1203);
        x.looker(7);
        for (int found : new int[] {0, 3, 4, -1, 127, -128}) {
            Due.bytes(x, 0, 1, found, 0, found);
            due.is("22: none is left, whatever FOUND is: " + found, x.drawn(0, 1, 30, 0), 0);
            due.is("22: both looked, whatever FOUND is: " + found, x.drawn(0, 1, 30, 1), 300);
        }
        Due.bytes(x, 0, 1, 9, 2, 0, 0, 0);
        due.is("22: who is not there ends it", x.drawn(0, 1, 1, 1), 7 + 100 * x.drawn(0, 1, 1, 0));
        Due.bytes(x, 0, 1, 9, -1, 0, 0, 0);
        due.is("22: who is not there ends it", x.drawn(0, 1, 1, 1), 7 + 100 * x.drawn(0, 1, 1, 0));
        Due.bytes(x, 0, 1, 9, 0);
        due.is("22: half a two is none", x.drawn(0, 1, 1, 1), 7 + 100 * x.drawn(0, 1, 1, 0));
    }

    private static void wrongOnes() {
        StoneInLentils x = new StoneInLentils();
        x.looker(605);
        Due.bytes(x, 0, 0, 0, 0);
        x.row(1, 2, 4);
        x.body(3);
        x.keep(2, 0);
        for (int what = 0; what < 3; what++) {
            due.is("21: nothing", x.who(3, 0, what, 0), -11);
            due.is("21: ints", x.who(1, 0, what, 0), -12);
            due.is("21: a body", x.who(2, 0, what, 0), -12);
            due.is("21: shelf", x.who(-1, 0, what, 0), -1);
            due.is("21: shelf", x.who(6, 0, what, 0), -1);
            due.is("21: bag", x.who(0, -1, what, 0), -1);
            due.is("21: bag", x.who(0, 4, what, 0), -1);
            due.is("21: BAD ahead of -11", x.who(3, 4, what, 0), -1);
        }
        due.is("21: what", x.who(0, 0, -1, 0), -1);
        due.is("21: what", x.who(0, 0, 3, 0), -1);
        for (int k : new int[] {-1, 3, 4, Integer.MAX_VALUE, Integer.MIN_VALUE}) {
            due.is("21: no such k", x.who(0, 0, 1, k), -1);
            due.is("21: no such k", x.who(0, 0, 2, k), -1);
        }
        due.is("22: nothing", x.drawn(3, 0, 1, 0), -11);
        due.is("22: ints", x.drawn(1, 0, 1, 0), -12);
        due.is("22: a body", x.drawn(2, 0, 1, 0), -12);
        for (int bn : new int[] {-1, 0, 31, 99, 100, 131, 400, 401, Integer.MAX_VALUE, Integer.MIN_VALUE}) {
            due.is("22: bn " + bn, x.drawn(0, 0, bn, 0), -1);
            due.is("22: BAD ahead of -11", x.drawn(3, 0, bn, 0), -1);
        }
        due.is("22: what", x.drawn(0, 0, 1, 2), -1);
        due.is("22: what", x.drawn(0, 0, 1, -1), -1);
        due.is("22: shelf", x.drawn(6, 0, 1, 0), -1);
        due.is("22: shelf", x.drawn(-1, 0, 1, 0), -1);
    }
}
