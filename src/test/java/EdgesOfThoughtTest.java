/** Section 2 of the document's Terms, looks in thought: each sentence that names an edge, tested by itself. */
public final class EdgesOfThoughtTest {
    private static final Due due = new Due("EdgesOfThoughtTest");
    private static final int LEAST = Integer.MIN_VALUE, GREATEST = Integer.MAX_VALUE;

    public static void main(String[] args) {
        behindNoLooks();
        stillIn();
        lowestTerms();
        cannotBe();
        cannotBeByEach();
        sure();
        likely();
        costsMore();
        worthOfTheGreatest();
        greatestWorth();
        washingToo();
        aboveZero();
        nobodyNext();
        thoseWhoCame();
        atMostSoManyLooks();
        chosenByWhatWasFound();
        likeOnesToStop();
        thenTheLeast();
        nobodyFirst();
        planOfTheGreatest();
        leastTogether();
        likeBags();
        buyOfTheGreatest();
        twoLooks();
        due.end();
    }

    private static void is(String what, long above, long below, long wantAbove, long wantBelow) {
        due.is(what + ": above", above, wantAbove);
        due.is(what + ": below", below, wantBelow);
    }

    private static void left(StoneInLentils x, int j, long above, long below) {
        is("left " + j, x.left(0, 0, j, 0), x.left(0, 0, j, 1), above, below);
    }

    private static void mean(StoneInLentils x, int what, long above, long below) {
        is("mean " + what, x.mean(0, 0, what, 0), x.mean(0, 0, what, 1), above, below);
    }

    private static void worth(StoneInLentils x, int by, long above, long below) {
        is("worth " + by, x.worth(0, by, 0), x.worth(0, by, 1), above, below);
    }

    private static void plan(StoneInLentils x, int m, long above, long below, int first) {
        is("plan " + m, x.plan(0, m, 0), x.plan(0, m, 1), above, below);
        due.is("first of " + m, x.plan(0, m, 2), first);
    }

    private static void buy(StoneInLentils x, int which, long above, long below) {
        is("buy", x.buy(0), x.buy(1), above, below);
        due.is("which", x.buy(2), which);
    }

    /** BAG 0 with WEIGHTS, an empty ROW on SHELF 0. */
    private static StoneInLentils of(int... weights) {
        StoneInLentils x = new StoneInLentils();
        Due.weights(x, 0, weights);
        Due.bytes(x, 0);
        return x;
    }

    private static void behindNoLooks() {
        due.sentence("LEFT: behind the looks of a ROW");
        StoneInLentils x = of(1, 1, 1, 1);
        for (int j = 0; j < 4; j++) left(x, j, 1, 4);
        mean(x, 0, 3, 2);
        mean(x, 1, 1, 4);
        mean(x, 2, 1, 1);
    }

    private static void stillIn() {
        due.sentence("how likely j STONES (0 .. 3) are still in");
        StoneInLentils x = of(1, 2, 3, 4);
        left(x, 0, 1, 10);
        left(x, 1, 1, 5);
        left(x, 2, 3, 10);
        left(x, 3, 2, 5);
        for (int j : new int[] {-1, 4, LEAST, GREATEST}) {
            for (int part = 0; part < 2; part++) due.is("j " + j, x.left(0, 0, j, part), Due.NONE);
        }
    }

    private static void lowestTerms() {
        due.sentence("a fraction in lowest terms");
        StoneInLentils x = of(2, 2, 0, 0);
        left(x, 0, 1, 2);
        left(x, 3, 0, 1);
        Due.weights(x, 0, 3, 6, 0, 0);
        left(x, 0, 1, 3);
        mean(x, 0, 2, 3);
        Due.weights(x, 0, 0, 0, 0, 9);
        left(x, 3, 1, 1);
        left(x, 0, 0, 1);
        mean(x, 0, 3, 1);
        mean(x, 1, 0, 1);
        Due.weights(x, 0, 9, 0, 0, 0);
        mean(x, 0, 0, 1);
        mean(x, 1, 1, 1);
    }

    private static void asksNot(StoneInLentils x) {
        for (int part = 0; part < 2; part++) {
            for (int j = 0; j < 4; j++) due.is("left", x.left(0, 0, j, part), -2);
            due.is("mean left", x.mean(0, 0, 0, part), -2);
            due.is("sure", x.mean(0, 0, 1, part), -2);
            due.is("likely", x.mean(0, 0, 2, part), part);
            due.is("worth", x.worth(0, 0, part), -2);
            due.is("worth of washing", x.worth(0, 6, part), -2);
        }
        due.is("next", x.next(0, 0), -2);
    }

    private static void cannotBe() {
        due.sentence("NOT: the row cannot be");
        StoneInLentils x = of(1, 1, 0, 0);
        x.looker(600);
        Due.bytes(x, 0, 0, 2);
        asksNot(x);
        Due.bytes(x, 0, 0, 1, 0, 1);
        asksNot(x);
        Due.bytes(x, 0, 0, 0, 0, 0, 0, 0, 0, 3);
        asksNot(x);
        Due.bytes(x, 0, 0, 0, 0, 0, 0, 0, 0, 1);
        left(x, 0, 1, 1);
        mean(x, 2, 1, 32);
    }

    private static void cannotBeByEach() {
        due.sentence("In so many of twelve (held within 0 .. 12) a LOOKER finds a STONE by one look");
        StoneInLentils blind = of(1, 1, 1, 1);
        blind.looker(0);
        Due.bytes(blind, 0, 0, 1);
        asksNot(blind);
        Due.bytes(blind, 0, 0, 0);
        left(blind, 3, 1, 4);
        StoneInLentils sharp = of(0, 1, 1, 1);
        sharp.looker(1200);
        Due.bytes(sharp, 0, 0, 0);
        asksNot(sharp);
        Due.bytes(sharp, 0, 0, 1, 0, 1);
        asksNot(sharp);
        Due.bytes(sharp, 0, 0, 3);
        left(sharp, 0, 1, 1);
        mean(sharp, 2, 1, 3);
    }

    private static void sure() {
        due.sentence("SURE: how likely none is left");
        StoneInLentils x = of(0, 1, 0, 0);
        x.looker(600);
        mean(x, 1, 0, 1);
        Due.bytes(x, 0, 0, 1);
        mean(x, 1, 1, 1);
        Due.bytes(x, 0, 0, 0);
        mean(x, 1, 0, 1);
        Due.weights(x, 0, 1, 1, 0, 0);
        mean(x, 1, 2, 3);
    }

    private static void likely() {
        due.sentence("LIKELY: how likely just that ROW is ahead of all: a fraction.");
        StoneInLentils x = of(1, 1, 1, 1);
        x.looker(100);
        mean(x, 2, 1, 1);
        Due.bytes(x, 0, 0, 3, 0, 3);
        mean(x, 2, 0, 1);
        Due.weights(x, 0, 0, 0, 0, 9);
        Due.bytes(x, 0, 0, 0, 0, 0, 0, 0, 0, 3);
        // 11/12 four times less once for each of the three: 11^9 by 12^12
        mean(x, 2, 2357947691L, 8916100448256L);
    }

    private static void costsMore() {
        due.sentence("(below 0: it costs more)");
        StoneInLentils x = of(1, 1, 0, 0);
        x.looker(601);
        x.mend(0, 10, 1);
        worth(x, 0, -3, 4);
        x.mend(0, 10, 4);
        worth(x, 0, 0, 1);
        x.mend(0, 10, 5);
        worth(x, 0, 1, 4);
        x.mend(0, 10, 0);
        worth(x, 0, -1, 1);
        x.mend(0, 6, 99);
        worth(x, 0, -99, 1);
        x.mend(0, 6, 0);
        worth(x, 0, 0, 1);
        worth(x, 6, -1, 1);
    }

    private static void worthOfTheGreatest() {
        due.sentence("TOOTH times how much less is LEFT on the mean by it, less COST: a fraction");
        StoneInLentils x = of(0, 0, 0, 9);
        x.looker(1200);
        x.mend(0, 10, 999);
        worth(x, 0, 2997, 1);
        x.mend(0, 6, 99);
        worth(x, 0, 2898, 1);
        Due.tell(x, "n=4?12;1");
        Due.bytes(x, 0, 0, 0, 0, 0, 0, 0, 0, 0);
        worth(x, 0, 2898, 1);
        Due.weights(x, 0, 9, 0, 0, 9);
        // b is 12^12, a is 11^12: three left by a of a and b
        long a = 3138428376721L;
        long b = 8916100448256L;
        worth(x, 0, 2898 * a - 99 * b, a + b);
    }

    private static void greatestWorth() {
        due.sentence("NEXT: the LOOKER with the greatest WORTH (of like ones the least)");
        StoneInLentils x = of(1, 1, 1, 1);
        for (int i = 0; i < 6; i++) x.looker(605);
        due.is("all alike", x.next(0, 0), 0);
        for (int who = 5; who > 0; who--) {
            x.mend(who, 6, 4);
            due.is("the cheaper", x.next(0, 0), who);
        }
        x.mend(5, 6, 3);
        due.is("the cheapest", x.next(0, 0), 5);
        x.mend(3, 5, 7);
        due.is("who sees more", x.next(0, 0), 3);
    }

    private static void washingToo() {
        due.sentence("WASHING too (6: by WASH for 1, as a look; after LOOKERS)");
        StoneInLentils x = of(1, 1, 1, 1);
        due.is("there is nobody else", x.next(0, 0), 6);
        for (int i = 0; i < 6; i++) x.looker(i < 5 ? 0 : 601);
        x.mend(0, 11, 6);
        due.is("like looker 5", x.next(0, 0), 5);
        x.mend(0, 11, 7);
        due.is("better than looker 5", x.next(0, 0), 6);
        x.mend(5, 5, 12);
        due.is("worse than looker 5", x.next(0, 0), 5);
        Due.bytes(x, 0, 5, 3);
        due.is("there is none to find", x.next(0, 0), -2);
    }

    private static void aboveZero() {
        due.sentence("if it is above 0; NOT: none");
        StoneInLentils x = of(1, 1, 0, 0);
        x.looker(1201);
        x.mend(0, 11, 0);
        x.mend(0, 10, 2);
        worth(x, 0, 0, 1);
        due.is("just 0", x.next(0, 0), -2);
        x.mend(0, 10, 3);
        due.is("above 0", x.next(0, 0), 0);
        x.mend(0, 10, 1);
        due.is("below 0", x.next(0, 0), -2);
        x.mend(0, 6, 0);
        x.mend(0, 5, 1);
        Due.weights(x, 0, 0, 1, 0, 0);
        worth(x, 0, 1, 12);
        due.is("as little above 0 as may be", x.next(0, 0), 0);
        Due.weights(x, 0, 1, 1, 0, 0);
        x.mend(0, 11, 12);
        x.mend(0, 5, 0);
        x.mend(0, 10, 2);
        due.is("washing, just 0", x.next(0, 0), -2);
        x.mend(0, 10, 3);
        due.is("washing, above 0", x.next(0, 0), 6);
    }

    private static void nobodyNext() {
        due.sentence("NOT: none, or the row cannot be");
        StoneInLentils x = of(1, 1, 1, 1);
        x.looker(600);
        x.mend(0, 10, 0);
        due.is("a tooth costs nothing", x.next(0, 0), -2);
        x.mend(0, 10, 999);
        due.is("somebody", x.next(0, 0), 0);
        Due.bytes(x, 0, 0, 3, 0, 1);
        due.is("it cannot be", x.next(0, 0), -2);
    }

    private static void thoseWhoCame() {
        due.sentence("by any LOOKERS");
        StoneInLentils x = of(1, 1, 1, 1);
        x.mend(0, 11, 0);
        Due.tell(x, "12");
        due.is("nobody came", x.next(0, 0), -2);
        for (int m = 0; m < 4; m++) plan(x, m, 150, 1, -2);
        buy(x, 0, 160, 1);
        x.looker(5);
        due.is("one came", x.next(0, 0), 0);
        for (int m = 1; m < 4; m++) plan(x, m, 5, 1, 0);
        Due.tell(x, "n=1?12;0");
        // nobody else can look first for nothing
        plan(x, 1, 150, 1, -2);
        plan(x, 2, 10, 1, 0);
        buy(x, 0, 20, 1);
    }

    private static void atMostSoManyLooks() {
        due.sentence("from a BAG without looks m looks (0 .. 3) at most");
        StoneInLentils x = of(0, 1, 0, 0);
        x.looker(600);
        plan(x, 0, 100, 1, -2);
        plan(x, 1, 50, 1, 0);
        plan(x, 2, 25, 1, 0);
        plan(x, 3, 25, 2, 0);
        for (int m : new int[] {-1, 4, LEAST, GREATEST}) {
            for (int part = 0; part < 3; part++) due.is("m " + m, x.plan(0, m, part), Due.NONE);
        }
        Due.weights(x, 0, 1, 1, 0, 0);
        x.mend(0, 6, 20);
        // one look is worth it, 20 and 25 for 50; behind it none is: 20 and 50/3 for 100/3
        for (int m = 1; m < 4; m++) plan(x, m, 45, 1, 0);
        x.mend(0, 6, 99);
        for (int m = 0; m < 4; m++) plan(x, m, 50, 1, -2);
    }

    private static void chosenByWhatWasFound() {
        due.sentence("each next one chosen by what was found");
        StoneInLentils x = of(1, 0, 0, 1);
        x.looker(100);
        x.looker(1299);
        x.mend(0, 10, 99);
        // none or three; looker 1 takes all out for 99; looker 0 looks first, for nothing, in ways of 3456:
        // none found 1728 and 1331: looker 1, 99 (to stop 129); one found 363, two left: looker 1, 99
        // two found 33, one left: looker 0 again, 99 by 11/12, not looker 1 for 99; three found 1: 0
        // 99 by (3059 + 363) and 33 by 363/4, by 3456
        plan(x, 2, 50633, 512, 0);
        plan(x, 1, 99, 1, 1);
    }

    private static void likeOnesToStop() {
        due.sentence("(of like ones to stop");
        StoneInLentils x = of(1, 1, 1, 1);
        x.looker(675);
        plan(x, 1, 150, 1, -2);
        x.mend(0, 6, 76);
        plan(x, 1, 150, 1, -2);
        x.mend(0, 6, 74);
        plan(x, 1, 149, 1, 0);
        x.mend(0, 10, 0);
        x.mend(0, 6, 0);
        for (int m = 0; m < 4; m++) plan(x, m, 0, 1, -2);
    }

    private static void thenTheLeast() {
        due.sentence("then the least LOOKER");
        StoneInLentils x = of(1, 1, 1, 1);
        for (int i = 0; i < 6; i++) x.looker(605);
        for (int m = 1; m < 4; m++) due.is("all alike", x.plan(0, m, 2), 0);
        for (int who = 5; who > 0; who--) {
            x.mend(who, 6, 4);
            due.is("the cheaper", x.plan(0, 1, 2), who);
        }
    }

    private static void nobodyFirst() {
        due.sentence("NOT: nobody)");
        StoneInLentils x = of(1, 1, 1, 1);
        for (int m = 0; m < 4; m++) plan(x, m, 150, 1, -2);
        x.looker(0);
        for (int m = 0; m < 4; m++) plan(x, m, 150, 1, -2);
        x.looker(100);
        plan(x, 0, 150, 1, -2);
        due.is("somebody", x.plan(0, 1, 2), 1);
    }

    private static void planOfTheGreatest() {
        due.sentence("the least cost on the mean (COST of looks, TOOTH of what is left): a fraction");
        StoneInLentils x = of(9, 9, 9, 9);
        x.mend(0, 10, 999);
        plan(x, 3, 2997, 2, -2);
        for (int i = 0; i < 6; i++) x.looker(99);
        plan(x, 3, 2997, 2, -2);
        Due.weights(x, 0, 0, 0, 0, 9);
        plan(x, 3, 2997, 1, -2);
        for (int i = 0; i < 6; i++) x.mend(i, 6, 0);
        Due.tell(x, "k=5&n=2?12;0");
        plan(x, 2, 2997, 1, -2);
        plan(x, 3, 0, 1, 0);
        Due.tell(x, "k=5&n=2?11;0");
        plan(x, 3, 999, 4, 0);
    }

    private static void leastTogether() {
        due.sentence("of all BAGS that whose PRICE and PLAN (2 looks) together is least");
        for (int bag = 0; bag < 4; bag++) {
            StoneInLentils x = new StoneInLentils();
            x.mend(bag, 4, 9);
            buy(x, bag, 159, 1);
            x.mend(bag, 4, 10);
            x.mend(bag, 3, 0);
            buy(x, bag, 110, 1);
            x.mend(bag, 4, 59);
            buy(x, bag, 159, 1);
            x.mend(bag, 4, 61);
            buy(x, bag == 0 ? 1 : 0, 160, 1);
        }
    }

    private static void likeBags() {
        due.sentence("is least (of like ones the least)");
        StoneInLentils x = new StoneInLentils();
        buy(x, 0, 160, 1);
        x.mend(0, 4, 11);
        buy(x, 1, 160, 1);
        x.mend(1, 4, 11);
        buy(x, 2, 160, 1);
        x.mend(2, 4, 11);
        buy(x, 3, 160, 1);
        x.mend(3, 4, 11);
        buy(x, 0, 161, 1);
        x.mend(0, 10, 10);
        Due.weights(x, 3, 1, 1, 0, 0);
        // 11 and 15 against 21 and 5
        x.mend(3, 4, 21);
        buy(x, 0, 26, 1);
        x.mend(3, 4, 20);
        buy(x, 3, 25, 1);
        Due.weights(x, 2, 2, 1, 0, 0);
        // 20 and 5 against 21 and 10/3
        x.mend(2, 4, 21);
        buy(x, 2, 73, 3);
        x.mend(2, 4, 22);
        buy(x, 3, 25, 1);
    }

    private static void buyOfTheGreatest() {
        due.sentence("which; that: a fraction");
        StoneInLentils x = new StoneInLentils();
        x.mend(0, 10, 999);
        for (int bag = 0; bag < 4; bag++) {
            Due.weights(x, bag, 9, 9, 9, 9);
            x.mend(bag, 4, 99);
        }
        buy(x, 0, 3195, 2);
        for (int i = 0; i < 6; i++) x.looker(99);
        buy(x, 0, 3195, 2);
        x.mend(3, 3, 8);
        // 51 of 35 stones: 99 and 999 51/35
        buy(x, 3, 54414, 35);
        x.mend(0, 10, 0);
        for (int bag = 0; bag < 4; bag++) x.mend(bag, 4, 0);
        buy(x, 0, 0, 1);
    }

    private static void twoLooks() {
        due.sentence("PLAN (2 looks)");
        StoneInLentils x = new StoneInLentils();
        x.looker(0);
        Due.tell(x, "n=2?12;0");
        buy(x, 0, 160, 1);
        plan(x, 3, 0, 1, 0);
        Due.tell(x, "n=1?12;0");
        buy(x, 0, 10, 1);
        plan(x, 1, 150, 1, -2);
    }
}
