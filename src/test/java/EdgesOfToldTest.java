/** Section 4 of the document's Terms, told looks, draws, deeds, changes: each sentence that names an edge, tested by itself. */
public final class EdgesOfToldTest {
    private static final Due due = new Due("EdgesOfToldTest");
    private static final int LEAST = Integer.MIN_VALUE, GREATEST = Integer.MAX_VALUE;
    private static final int[] SEEDS = {0, 1, -1, 7, 12345, -1103515245, LEAST, GREATEST};

    public static void main(String[] args) {
        fourCount();
        toldEnds();
        anyAlsoTheSame();
        stonesThatMayBe();
        sureBy();
        most();
        mostOfNone();
        likelyAboveZero();
        bagsDrawn();
        anIntThatWraps();
        leastJ();
        foundAsMayBe();
        belowTheTwelfths();
        leftAndCosts();
        openLookEat();
        oneAtATime();
        moreLooksThanTen();
        led();
        eachIsAChange();
        sameNumber();
        latestFirst();
        noOtherBehind();
        fortyAtMost();
        fortyOneAndAgain();
        deedsAreNone();
        anImage();
        imageOfNoneOpen();
        imageAndNumbers();
        due.end();
    }

    private static StoneInLentils by(int... lookers) {
        StoneInLentils x = new StoneInLentils();
        for (int sc : lookers) x.looker(sc);
        return x;
    }

    private static void rows(StoneInLentils x, int want, int... told) {
        Due.bytes(x, 0, told);
        due.is("how many of " + told.length, x.who(0, 0, 0, 0), want);
    }

    private static void fourCount() {
        due.sentence("TOLD: a ROW of bytes: FOUND of one BAG look by look (4 count)");
        StoneInLentils x = by(600, 600);
        int[] want = {1, 2, 4, 8, 16, 16, 16};
        for (int size = 0; size < 7; size++) rows(x, want[size], new int[size]);
        rows(x, 16, new int[60]);
        rows(x, 16, 0, 0, 0, 0, 3, 3);
        for (int k = 0; k < 4; k++) due.is("k " + k, x.who(0, 0, 2, k), 0);
        for (int k : new int[] {-1, 4, 5, LEAST, GREATEST}) {
            due.is("no such k", x.who(0, 0, 1, k), -1);
            due.is("no such k", x.who(0, 0, 2, k), -1);
        }
    }

    private static void toldEnds() {
        due.sentence("FOUND of one BAG look by look");
        StoneInLentils x = by(600, 600);
        for (int found = 0; found < 4; found++) rows(x, 2, found);
        for (int none : new int[] {4, -1, 127, -128}) {
            rows(x, 1, none);
            rows(x, 1, none, 0, 0);
            rows(x, 2, 0, none, 0);
            rows(x, 8, 0, 0, 0, none);
            due.is("the last that is told", x.who(0, 0, 2, 2), 0);
            due.is("it is not told", x.who(0, 0, 2, 3), -1);
        }
    }

    private static void anyAlsoTheSame() {
        due.sentence("WHO: which rows of LOOKERS (any, also the same again)");
        StoneInLentils x = new StoneInLentils();
        Due.tell(x, "6");
        for (int there = 0; there <= 6; there++) {
            int want = 1;
            for (int told = 0; told <= 4; told++) {
                rows(x, want, new int[told]);
                want *= there;
            }
            x.looker(100);
        }
    }

    private static void stonesThatMayBe() {
        due.sentence("can have found so with STONES that may be in: how many");
        StoneInLentils x = by(600);
        rows(x, 1, 3);
        rows(x, 1, 0, 1, 2);
        rows(x, 0, 2, 2);
        rows(x, 0, 0, 1, 1, 2);
        x.mend(0, 3, 0);
        rows(x, 0, 3);
        rows(x, 1, 1, 1);
        Due.weights(x, 0, 1, 0, 0, 0);
        rows(x, 0, 1);
        rows(x, 1, 0, 0, 0, 0);
    }

    private static void sureBy() {
        due.sentence("SURE BY: LOOKERS (bits) that looked at the k-th in all of them");
        StoneInLentils x = by(600);
        rows(x, 1, 0, 0, 0, 0);
        for (int k = 0; k < 4; k++) due.is("one looker", x.who(0, 0, 1, k), 1);
        for (int i = 0; i < 5; i++) x.looker(0);
        due.is("anybody", x.who(0, 0, 1, 0), 0);
        for (int who = 0; who < 6; who++) {
            x.mend(who, 5, 6);
            rows(x, who == 0 ? 1 : 2, 1);
            due.is("two can", x.who(0, 0, 1, 0), who == 0 ? 1 : 0);
            if (who > 0) x.mend(who - 1, 5, 0);
            rows(x, 1, 1);
            due.is("sure by " + who, x.who(0, 0, 1, 0), 1 << who);
        }
        rows(x, 0, 3, 3);
        due.is("of no row nobody", x.who(0, 0, 1, 0), 0);
        due.is("of no row nobody", x.who(0, 0, 1, 1), 0);
    }

    private static void most() {
        due.sentence("MOST: by the likeliest row the k-th LOOKER (of like ones the first by numbers)");
        StoneInLentils x = by(600, 600, 600, 600, 600, 600);
        Due.bytes(x, 0, 0, 1, 0, 2);
        for (int k = 0; k < 4; k++) due.is("all alike", x.who(0, 0, 2, k), 0);
        x.mend(5, 5, 7);
        Due.bytes(x, 0, 3);
        due.is("who finds more", x.who(0, 0, 2, 0), 5);
        Due.bytes(x, 0, 0);
        due.is("who finds less", x.who(0, 0, 2, 0), 0);
        Due.weights(x, 0, 0, 1, 0, 0);
        Due.bytes(x, 0, 0, 1);
        due.is("ahead of it who finds less", x.who(0, 0, 2, 0), 0);
        due.is("then who finds more", x.who(0, 0, 2, 1), 5);
    }

    private static void mostOfNone() {
        due.sentence("(of like ones the first by numbers); NOT.");
        StoneInLentils x = by(0);
        rows(x, 0, 1);
        due.is("nobody can have found", x.who(0, 0, 2, 0), -2);
        due.is("no such k ahead of it", x.who(0, 0, 2, 1), -1);
        StoneInLentils y = new StoneInLentils();
        rows(y, 0, 0);
        due.is("there is nobody", y.who(0, 0, 2, 0), -2);
        rows(y, 1);
        due.is("no look, no such k", y.who(0, 0, 2, 0), -1);
    }

    private static void likelyAboveZero() {
        due.sentence("(LIKELY above 0.)");
        StoneInLentils x = by(1200, 1100, 0);
        Due.weights(x, 0, 0, 1, 0, 0);
        // the first leaves none, the last finds none
        rows(x, 2, 0);
        rows(x, 2, 1);
        rows(x, 4, 0, 1);
        Due.tell(x, "k-1");
        rows(x, 3, 0);
        rows(x, 1, 1);
        due.is("held at 0", x.who(0, 0, 1, 0), 4);
        Due.tell(x, "12+k");
        rows(x, 3, 1);
        rows(x, 0, 0);
        Due.tell(x, "k=2");
        Due.weights(x, 0, 0, 0, 0, 1);
        // three found by 1 of twelve each: 1 by 1728
        rows(x, 1, 3);
        due.is("as little above 0 as may be", x.who(0, 0, 1, 0), 4);
        due.is("as little above 0 as may be", x.who(0, 0, 2, 0), 2);
    }

    private static void bagsDrawn() {
        due.sentence("DRAWN: n BAGS (1 .. 30) like one by a SEED");
        StoneInLentils x = new StoneInLentils();
        Due.bytes(x, 0);
        for (int bag = 0; bag < 4; bag++) {
            Due.weights(x, bag, 0, 0, 1, 0);
            due.is("one", x.drawn(0, 5, 100 * bag + 1, 0), 2);
            due.is("thirty", x.drawn(0, 5, 100 * bag + 30, 0), 60);
            for (int n : new int[] {0, 31, 99}) {
                for (int what = 0; what < 2; what++) due.is("n " + n, x.drawn(0, 5, 100 * bag + n, what), -1);
            }
        }
    }

    /** The draws with no int at all: z within 0 .. 2^32. */
    private static long next(long z) {
        return (z * 1103515245L + 12345L) % 4294967296L;
    }

    private static long first(int seed) {
        return next(Integer.toUnsignedLong(seed));
    }

    private static void anIntThatWraps() {
        due.sentence("z = z * 1103515245 + 12345 (an int; SEED at first) ahead of each draw");
        StoneInLentils x = by(600);
        Due.bytes(x, 0);
        Due.bytes(x, 1, 0, 0);
        Due.weights(x, 1, 0, 0, 0, 5);
        for (int seed : SEEDS) {
            long z = first(seed);
            due.is("of 4", x.drawn(0, seed, 1, 0), (z >> 8) % 4);
            x.open(0, seed);
            due.is("of 4", x.eat(), (z >> 8) % 4);
            int still = 3;
            for (int i = 0; i < 3; i++) {
                z = next(z);
                if ((z >> 8) % 12 < 6) still--;
            }
            due.is("three draws behind it", x.drawn(1, seed, 101, 0), still);
            x.open(1, seed);
            due.is("three draws behind it", x.look(0), 3 - still);
            int later = 0;
            for (int i = 0; i < still; i++) {
                z = next(z);
                if ((z >> 8) % 12 < 6) later++;
            }
            due.is("those of the next look behind these", x.look(0), later);
            due.is("what is left", x.eat(), still - later);
        }
        // 12345 without its lowest 8 bits is 48
        due.is("by hand", x.drawn(0, 0, 1, 0), 0);
        // -1103515245 and 12345 is -1103502900, 3191464396 without a sign: 12466657, by 4 there is 1 over
        due.is("no sign is kept", x.drawn(0, -1, 1, 0), 1);
    }

    private static void leastJ() {
        due.sentence("the least j with as many WEIGHTS ahead and its own as are more than that");
        int[][] all = {{1, 0, 0, 0}, {0, 0, 0, 1}, {0, 1, 0, 1}, {9, 9, 9, 9}, {0, 9, 0, 9}, {1, 9, 1, 9}, {9, 0, 0, 1}, {0, 0, 5, 0}};
        for (int[] weights : all) {
            StoneInLentils x = new StoneInLentils();
            Due.bytes(x, 0);
            Due.weights(x, 2, weights);
            int sum = weights[0] + weights[1] + weights[2] + weights[3];
            boolean[] seen = new boolean[4];
            for (int seed = 0; seed < 100; seed++) {
                long over = (first(seed * 123456791) >> 8) % sum;
                int j = 0;
                while (over >= weights[j]) over -= weights[j++];
                due.is("drawn", x.drawn(0, seed * 123456791, 201, 0), j);
                x.open(2, seed * 123456791);
                due.is("opened", x.eat(), j);
                seen[j] = true;
            }
            for (int j = 0; j < 4; j++) due.holds("each that may be came", seen[j] == weights[j] > 0);
        }
    }

    private static void foundAsMayBe() {
        due.sentence("then by a ROW's LOOKERS (FOUND as may be)");
        StoneInLentils x = by(1201);
        Due.weights(x, 0, 0, 0, 0, 1);
        for (int found : new int[] {0, 1, 3, 4, -1, 127, -128}) {
            Due.bytes(x, 0, 0, found);
            due.is("all are found", x.drawn(0, 3, 30, 0), 0);
            due.is("each is a look", x.drawn(0, 3, 30, 1), 30);
        }
        Due.bytes(x, 0, 1, 0);
        due.is("who is not there looks at none", x.drawn(0, 3, 30, 0), 90);
        x.looker(2);
        due.is("who is there, by 0", x.drawn(0, 3, 30, 0), 90);
        due.is("who is there, for 2", x.drawn(0, 3, 30, 1), 9060);
        Due.bytes(x, 0, 1, 0, 0, 0);
        due.is("both", x.drawn(0, 3, 30, 1), 90);
        due.is("both", x.drawn(0, 3, 30, 0), 0);
        Due.bytes(x, 0, -1, 0, 0, 0);
        due.is("what is behind it, neither", x.drawn(0, 3, 30, 0), 90);
        Due.bytes(x, 0, 0);
        due.is("half a two, neither", x.drawn(0, 3, 30, 0), 90);
        Due.bytes(x, 0);
        due.is("an empty one, neither", x.drawn(0, 3, 30, 0), 90);
    }

    private static void belowTheTwelfths() {
        due.sentence("found, if (z >>> 8) % 12 is below the twelfths");
        StoneInLentils x = by(0);
        Due.weights(x, 0, 0, 1, 0, 0);
        Due.bytes(x, 0, 0, 0);
        for (int share = 0; share <= 12; share++) {
            x.mend(0, 5, share);
            for (int seed : SEEDS) {
                boolean found = (next(first(seed)) >> 8) % 12 < share;
                due.is("by " + share, x.drawn(0, seed, 1, 0), found ? 0 : 1);
                x.open(0, seed);
                due.is("by " + share, x.look(0), found ? 1 : 0);
                x.eat();
            }
        }
    }

    private static void leftAndCosts() {
        due.sentence("STONES left of all; costs (COST of all looks, TOOTH of all left)");
        StoneInLentils x = by(99);
        x.mend(0, 10, 999);
        Due.weights(x, 3, 0, 0, 0, 9);
        Due.bytes(x, 0, new int[8]);
        due.is("most", x.drawn(0, 1, 330, 0), 90);
        due.is("most: 11880 and 89910", x.drawn(0, 1, 330, 1), 101790);
        Due.bytes(x, 0, new int[60]);
        due.is("four count", x.drawn(0, 1, 330, 1), 101790);
        Due.bytes(x, 0, new int[6]);
        due.is("three", x.drawn(0, 1, 330, 1), 98820);
        x.mend(0, 10, 0);
        x.mend(0, 6, 0);
        due.is("for nothing", x.drawn(0, 1, 330, 1), 0);
        due.is("for nothing", x.drawn(0, 1, 330, 0), 90);
    }

    private static void openLookEat() {
        due.sentence("OPEN a BAG by a SEED: STONES are drawn as told; LOOK of a LOOKER: what it finds; EAT: what is left.");
        StoneInLentils x = by(1200, 0);
        for (int j = 0; j < 4; j++) {
            Due.weights(x, 0, 0, 0, 0, 0);
            x.mend(0, j, 1);
            due.is("open", x.open(0, 9), 0);
            due.is("none by 0", x.look(1), 0);
            due.is("all by 12", x.look(0), j);
            due.is("none is left to find", x.look(0), 0);
            due.is("none is left", x.eat(), 0);
            x.open(0, 9);
            x.look(1);
            due.is("all are left", x.eat(), j);
        }
    }

    private static void oneAtATime() {
        due.sentence("LOOK: how many it finds (by draws that go on from those of OPEN). BAD; STATE: none is open.");
        StoneInLentils x = by(600);
        due.is("look ahead of open", x.look(0), -5);
        due.is("eat ahead of open", x.eat(), -5);
        due.is("open", x.open(3, 1), 3);
        for (int bag = 0; bag < 4; bag++) due.is("one is open", x.open(bag, 1), -5);
        x.look(0);
        due.is("one is open, behind a look, too", x.open(0, 1), -5);
        x.eat();
        due.is("look behind eat", x.look(0), -5);
        due.is("eat behind eat", x.eat(), -5);
        due.is("open again", x.open(3, 1), 3);
    }

    private static void moreLooksThanTen() {
        due.sentence("n how many looks the bag had ahead");
        StoneInLentils x = by(0);
        Due.weights(x, 0, 0, 0, 0, 1);
        Due.tell(x, "n>19?12;0");
        x.open(0, 1);
        for (int n = 0; n < 20; n++) due.is("look " + n, x.look(0), 0);
        due.is("so many ahead", x.led(5), 20);
        due.is("look 20", x.look(0), 3);
        x.eat();
        x.open(0, 1);
        due.is("none ahead again", x.led(5), 0);
        due.is("look 0", x.look(0), 0);
    }

    private static void ledIs(StoneInLentils x, int... want) {
        for (int what = 0; what < 6; what++) due.is("led " + what, x.led(what), want[what]);
    }

    private static void led() {
        due.sentence("LED: BAGS eaten, looks, STONES found, STONES left of eaten ones, costs.");
        StoneInLentils x = by(1203, 2);
        Due.weights(x, 0, 0, 0, 0, 1);
        ledIs(x, 0, 0, 0, 0, 0, -5);
        x.open(0, 1);
        ledIs(x, 0, 0, 0, 0, 0, 0);
        x.look(1);
        ledIs(x, 0, 1, 0, 0, 2, 1);
        x.look(0);
        ledIs(x, 0, 2, 3, 0, 5, 2);
        x.eat();
        ledIs(x, 1, 2, 3, 0, 5, -5);
        x.open(0, 1);
        ledIs(x, 1, 2, 3, 0, 5, 0);
        x.eat();
        ledIs(x, 2, 2, 3, 3, 305, -5);
        x.open(0, 1);
        x.mend(0, 10, 0);
        x.mend(1, 6, 99);
        x.look(1);
        x.eat();
        ledIs(x, 3, 3, 3, 6, 404, -5);
    }

    private static void eachIsAChange() {
        due.sentence("CHANGES (WEIGHTS, PRICE of BAGS; SEES, COST of LOOKERS; TALK, LAMP, THICK, TOOTH, WASH");
        StoneInLentils x = by(605, 605, 605, 605, 605, 605);
        int[] first = {1, 1, 1, 1, 10, 6, 5, 0, 5, 1, 100, 4};
        int changes = 0;
        for (int what = 0; what < 12; what++) {
            int numbers = what < 5 ? 4 : what < 7 ? 6 : 1;
            for (int number = 0; number < numbers; number++) {
                due.is("mend", x.mend(number, what, first[what] + 1), first[what]);
                changes++;
            }
        }
        due.is("each is one", x.count(2), changes);
        for (int what = 11; what >= 0; what--) {
            int numbers = what < 5 ? 4 : what < 7 ? 6 : 1;
            for (int number = numbers - 1; number >= 0; number--) {
                due.is("it stands", x.of(number, what), first[what] + 1);
                changes--;
                due.is("undo", x.undo(), changes);
                due.is("it is as it was", x.of(number, what), first[what]);
            }
        }
    }

    private static void sameNumber() {
        due.sentence("telling the same number is none");
        StoneInLentils x = by(605);
        int[] first = {1, 1, 1, 1, 10, 6, 5, 0, 5, 1, 100, 4};
        for (int what = 0; what < 12; what++) {
            due.is("mend", x.mend(0, what, first[what]), first[what]);
            due.is("no change", x.count(2), 0);
        }
        due.is("none to undo", x.undo(), -5);
        x.mend(0, 7, 3);
        x.undo();
        for (int what = 0; what < 12; what++) x.mend(0, what, first[what]);
        due.is("it may still be done again", x.redo(), 0);
        due.is("it is done again", x.of(0, 7), 3);
    }

    private static void latestFirst() {
        due.sentence("can be UNDONE, the latest first, and DONE AGAIN");
        StoneInLentils x = by(605);
        due.is("none", x.undo(), -5);
        due.is("none", x.redo(), -5);
        x.mend(0, 10, 1);
        x.mend(0, 10, 2);
        x.mend(3, 4, 50);
        due.is("two may still be", x.undo(), 2);
        due.is("the latest", x.of(3, 4), 10);
        due.is("not those ahead", x.of(0, 10), 2);
        due.is("one may still be", x.undo(), 1);
        due.is("back", x.of(0, 10), 1);
        due.is("none may still be", x.undo(), 0);
        due.is("back", x.of(0, 10), 100);
        due.is("none", x.undo(), -5);
        due.is("two may be again", x.redo(), 2);
        due.is("on", x.of(0, 10), 1);
        due.is("one may be again", x.redo(), 1);
        due.is("on", x.of(0, 10), 2);
        due.is("none may be again", x.redo(), 0);
        due.is("on", x.of(3, 4), 50);
        due.is("none", x.redo(), -5);
        due.is("three may be undone", x.count(2), 3);
    }

    private static void noOtherBehind() {
        due.sentence("DONE AGAIN (as long as no other came behind)");
        StoneInLentils x = by(605);
        for (int i = 1; i < 6; i++) x.mend(0, 10, i);
        x.undo();
        x.undo();
        due.is("another", x.mend(0, 8, 9), 5);
        due.is("none", x.redo(), -5);
        due.is("four", x.count(2), 4);
        due.is("undo", x.undo(), 3);
        due.is("what came behind", x.of(0, 8), 5);
        due.is("what was ahead", x.of(0, 10), 3);
        due.is("refused ones are no others", x.mend(0, 8, 10), -1);
        due.is("redo", x.redo(), 0);
        due.is("what came behind", x.of(0, 8), 9);
    }

    private static void fortyAtMost() {
        due.sentence("40 at most are kept");
        for (int changes : new int[] {39, 40, 41, 100}) {
            StoneInLentils x = new StoneInLentils();
            for (int i = 0; i < changes; i++) x.mend(i % 4, 4, i / 4 + 20);
            int kept = Math.min(40, changes);
            due.is("kept", x.count(2), kept);
            for (int i = kept - 1; i >= 0; i--) due.is("undo", x.undo(), i);
            due.is("none", x.undo(), -5);
            for (int bag = 0; bag < 4; bag++) {
                int told = (changes - kept - bag + 3) / 4;
                due.is("as it was ahead of them", x.of(bag, 4), told == 0 ? 10 : told + 19);
            }
        }
    }

    private static void fortyOneAndAgain() {
        due.sentence("40 at most are kept; deeds are none");
        StoneInLentils x = new StoneInLentils();
        for (int i = 1; i <= 40; i++) x.mend(0, 10, i);
        x.undo();
        x.mend(0, 10, 500);
        due.is("still forty", x.count(2), 40);
        due.is("undo", x.undo(), 39);
        due.is("back", x.of(0, 10), 39);
        x.redo();
        due.is("on", x.of(0, 10), 500);
        x.mend(0, 10, 501);
        due.is("still forty", x.count(2), 40);
        for (int i = 39; i >= 0; i--) due.is("undo", x.undo(), i);
        due.is("the first is lost", x.of(0, 10), 1);
        for (int i = 39; i >= 0; i--) {
            due.is("redo", x.redo(), i);
            due.is("on", x.of(0, 10), i == 0 ? 501 : i == 1 ? 500 : 41 - i);
        }
    }

    private static void deedsAreNone() {
        due.sentence("deeds are none");
        StoneInLentils x = by(605);
        x.mend(0, 10, 7);
        x.undo();
        x.open(0, 1);
        x.look(0);
        x.image();
        x.eat();
        x.back();
        x.looker(605);
        Due.bytes(x, 0, 6, 5);
        x.lookers(0, 0, 1);
        Due.tell(x, "s");
        due.is("no change", x.count(2), 0);
        due.is("it may still be done again", x.redo(), 0);
        due.is("undo", x.undo(), 0);
        due.is("lookers stay", x.count(0), 3);
        due.is("the bag stays open", x.led(5), 1);
    }

    private static void anImage() {
        due.sentence("AN IMAGE keeps the BAG that is open, what LED tells.");
        StoneInLentils x = by(603);
        Due.weights(x, 0, 0, 0, 0, 1);
        due.is("there is none", x.back(), -5);
        x.open(0, 21);
        x.eat();
        x.open(0, 22);
        x.look(0);
        int[] kept = new int[6];
        for (int what = 0; what < 6; what++) kept[what] = x.led(what);
        due.is("image", x.image(), 1);
        int found = x.look(0);
        int left = x.eat();
        for (int again = 0; again < 3; again++) {
            due.is("back", x.back(), 1);
            ledIs(x, kept);
            due.is("its draws", x.look(0), found);
            due.is("its stones", x.eat(), left);
        }
        due.is("a later image", x.image(), 2);
        x.open(0, 1);
        x.eat();
        due.is("the later one", x.back(), 2);
        due.is("the later one", x.led(5), -5);
    }

    private static void imageOfNoneOpen() {
        due.sentence("AN IMAGE is kept: BAGS eaten.");
        StoneInLentils x = by(603);
        due.is("of a new one", x.image(), 0);
        x.open(1, 1);
        x.look(0);
        due.is("back", x.back(), 0);
        ledIs(x, 0, 0, 0, 0, 0, -5);
        due.is("none is open", x.eat(), -5);
        due.is("one may be opened", x.open(2, 1), 2);
    }

    private static void imageAndNumbers() {
        due.sentence("It is laid back: BAGS eaten. STATE: there is none.");
        StoneInLentils x = by(603);
        due.is("there is none", x.back(), -5);
        x.image();
        x.mend(0, 10, 9);
        x.mend(0, 10, 8);
        x.undo();
        x.looker(1);
        x.feed('s');
        x.body(4);
        Due.bytes(x, 2, 5);
        due.is("back", x.back(), 0);
        due.is("numbers stay", x.of(0, 10), 9);
        due.is("changes stay", x.count(2), 1);
        due.is("changes stay", x.redo(), 0);
        due.is("lookers stay", x.count(0), 2);
        due.is("the tape stays", x.count(1), 1);
        due.is("bodies stay", x.count(3), 1);
        due.is("shelves stay", x.element(2, 0), 5);
    }
}
