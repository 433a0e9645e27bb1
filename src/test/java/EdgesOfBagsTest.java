/** Section 1 of the document's Terms, BAGS and LOOKERS: each sentence that names an edge, tested by itself. */
public final class EdgesOfBagsTest {
    private static final Due due = new Due("EdgesOfBagsTest");
    private static final int LEAST = Integer.MIN_VALUE, GREATEST = Integer.MAX_VALUE;

    public static void main(String[] args) {
        fourBags();
        noOtherBag();
        weight();
        asLikelyAsTheirWeights();
        allZeroInThought();
        allZeroInDeed();
        price();
        sixLookers();
        noOtherLooker();
        sees();
        cost();
        talk();
        lamp();
        thick();
        tooth();
        wash();
        washing();
        due.end();
    }

    private static void fourBags() {
        due.sentence("BAGS 0 ..");
        StoneInLentils x = new StoneInLentils();
        x.looker(605);
        Due.bytes(x, 0);
        for (int bag = 0; bag < 4; bag++) {
            due.is("mend", x.mend(bag, 4, 10 + bag), 10);
            due.is("of", x.of(bag, 4), 10 + bag);
            due.is("left", x.left(0, bag, 0, 1), 4);
            due.is("mean", x.mean(0, bag, 0, 1), 2);
            due.is("worth", x.worth(0, 10 * bag, 0), 70);
            due.is("next", x.next(0, bag), 0);
            due.is("plan", x.plan(bag, 0, 0), 150);
            due.is("handful", x.handful(bag, 6060, 0, 1), 4);
            due.is("who", x.who(0, bag, 0, 0), 1);
            // 1 by 1103515245 and 12345, without the lowest 8 bits: 4310654, by 4 there are 2 over
            due.is("drawn", x.drawn(0, 1, 100 * bag + 1, 0), 2);
            due.is("open", x.open(bag, 1), bag);
            due.is("eat", x.eat(), 2);
        }
    }

    private static void noOtherBag() {
        due.sentence("BAD (-1): no such number");
        StoneInLentils x = new StoneInLentils();
        x.looker(605);
        Due.bytes(x, 0);
        for (int bag : new int[] {-1, 4, LEAST, GREATEST}) {
            for (int what = 0; what < 5; what++) {
                due.is("mend", x.mend(bag, what, 1), -1);
                due.is("of", x.of(bag, what), -1);
            }
            due.is("left", x.left(0, bag, 0, 0), Due.NONE);
            for (int what = 0; what < 3; what++) due.is("mean", x.mean(0, bag, what, 0), Due.NONE);
            due.is("next", x.next(0, bag), -1);
            for (int part = 0; part < 3; part++) due.is("plan", x.plan(bag, 0, part), Due.NONE);
            due.is("handful", x.handful(bag, 201, 0, 0), Due.NONE);
            for (int what = 0; what < 3; what++) due.is("who", x.who(0, bag, what, 0), -1);
            due.is("open", x.open(bag, 0), -1);
        }
        for (int by : new int[] {-1, -4, -10, 40, 46, 100, LEAST, GREATEST}) due.is("worth " + by, x.worth(0, by, 0), Due.NONE);
        for (int bn : new int[] {-1, -99, -70, 401, 430, LEAST, GREATEST}) due.is("drawn " + bn, x.drawn(0, 0, bn, 0), -1);
    }

    /** What mend() tells of one number, up to its edges and one beyond. */
    private static void range(StoneInLentils x, int number, int what, int least, int greatest) {
        int first = x.of(number, what);
        for (int v : new int[] {least - 1, greatest + 1, LEAST, GREATEST}) {
            due.is("mend(" + number + ", " + what + ", " + v + ")", x.mend(number, what, v), -1);
            due.is("it stays", x.of(number, what), first);
        }
        due.is("the least", x.mend(number, what, least), first);
        due.is("the least", x.of(number, what), least);
        due.is("the greatest", x.mend(number, what, greatest), least);
        due.is("the greatest", x.of(number, what), greatest);
        due.is("between", x.mend(number, what, least + 1), greatest);
    }

    private static void rangeOfAll(int what, int first, int least, int greatest) {
        StoneInLentils x = new StoneInLentils();
        due.is("at first", x.of(0, what), first);
        range(x, 0, what, least, greatest);
        for (int number : new int[] {-1, 1, LEAST, GREATEST}) {
            due.is("number 0 for these", x.mend(number, what, first), -1);
            due.is("number 0 for these", x.of(number, what), -1);
        }
    }

    private static void weight() {
        due.sentence("WEIGHT (0 .. 9) of 0, 1, 2, 3 STONES being in it ahead of all (1, 1, 1, 1 at first");
        StoneInLentils x = new StoneInLentils();
        for (int bag = 0; bag < 4; bag++) {
            for (int j = 0; j < 4; j++) {
                due.is("at first", x.of(bag, j), 1);
                range(x, bag, j, 0, 9);
            }
        }
    }

    private static void asLikelyAsTheirWeights() {
        due.sentence("all alike as likely as their WEIGHTS");
        StoneInLentils x = new StoneInLentils();
        Due.bytes(x, 0);
        Due.weights(x, 0, 9, 0, 0, 1);
        int[] above = {9, 0, 0, 1};
        int[] below = {10, 1, 1, 10};
        for (int j = 0; j < 4; j++) {
            due.is("above", x.left(0, 0, j, 0), above[j]);
            due.is("below", x.left(0, 0, j, 1), below[j]);
        }
        for (int only = 0; only < 4; only++) {
            for (int j = 0; j < 4; j++) x.mend(1, j, j == only ? 9 : 0);
            for (int j = 0; j < 4; j++) {
                due.is("one alone", x.left(0, 1, j, 0), j == only ? 1 : 0);
                due.is("one alone", x.left(0, 1, j, 1), 1);
            }
            due.is("as many each", x.drawn(0, 77, 130, 0), 30 * only);
            x.open(1, only);
            due.is("as many each", x.eat(), only);
        }
    }

    private static void allZeroInThought() {
        due.sentence("all 0: no STONE");
        StoneInLentils x = new StoneInLentils();
        x.looker(607);
        x.looker(1200);
        Due.weights(x, 0, 0, 0, 0, 0);
        Due.bytes(x, 0);
        for (int j = 0; j < 4; j++) {
            due.is("left", x.left(0, 0, j, 0), j == 0 ? 1 : 0);
            due.is("left", x.left(0, 0, j, 1), 1);
        }
        due.is("mean left", x.mean(0, 0, 0, 0), 0);
        due.is("mean left", x.mean(0, 0, 0, 1), 1);
        due.is("sure", x.mean(0, 0, 1, 0), 1);
        due.is("worth its cost less", x.worth(0, 0, 0), -7);
        due.is("washing costs 1", x.worth(0, 6, 0), -1);
        due.is("nobody next", x.next(0, 0), -2);
        due.is("plan", x.plan(0, 3, 0), 0);
        due.is("plan", x.plan(0, 3, 1), 1);
        due.is("nobody first", x.plan(0, 3, 2), -2);
        due.is("buy", x.buy(2), 0);
        due.is("for its price", x.buy(0), 10);
        for (int what = 0; what < 2; what++) {
            for (int part = 0; part < 2; part++) due.is("handful", x.handful(0, 6060, what, part), 1);
        }
        Due.bytes(x, 0, 0, 1);
        due.is("none can be found", x.left(0, 0, 0, 0), -2);
        due.is("none can be found", x.mean(0, 0, 2, 0), 0);
        Due.bytes(x, 0, 1, 0);
        due.is("none was found", x.left(0, 0, 0, 0), 1);
        due.is("none was found", x.mean(0, 0, 2, 0), 1);
        Due.bytes(x, 1, 0, 0);
        due.is("who found none", x.who(1, 0, 0, 0), 4);
        Due.bytes(x, 1, 0, 1);
        due.is("who found one", x.who(1, 0, 0, 0), 0);
    }

    private static void allZeroInDeed() {
        due.sentence("(no draw, if all are 0)");
        StoneInLentils x = new StoneInLentils();
        x.looker(603);
        Due.weights(x, 2, 0, 0, 0, 0);
        Due.bytes(x, 0, 0, 0);
        for (int seed : new int[] {0, 1, -1, LEAST, GREATEST}) {
            due.is("drawn", x.drawn(0, seed, 230, 0), 0);
            due.is("looks alone cost", x.drawn(0, seed, 230, 1), 90);
            due.is("open", x.open(2, seed), 2);
            due.is("look", x.look(0), 0);
            due.is("eat", x.eat(), 0);
        }
    }

    private static void price() {
        due.sentence("PRICE (0 .. 99; 10 at first)");
        StoneInLentils x = new StoneInLentils();
        for (int bag = 0; bag < 4; bag++) {
            due.is("at first", x.of(bag, 4), 10);
            range(x, bag, 4, 0, 99);
        }
    }

    private static void sixLookers() {
        due.sentence("LOOKERS 0 .. 5, as they come");
        StoneInLentils x = new StoneInLentils();
        for (int who = 0; who < 6; who++) {
            due.is("its number", x.looker(100 * who + 50 + who), who);
            due.is("so many came", x.count(0), who + 1);
        }
        due.is("there is no seventh", x.looker(605), -3);
        for (int who = 0; who < 6; who++) {
            due.is("SEES", x.of(who, 5), who);
            due.is("COST", x.of(who, 6), 50 + who);
        }
    }

    private static void noOtherLooker() {
        due.sentence("BAD (-1): no such number");
        StoneInLentils x = new StoneInLentils();
        Due.bytes(x, 0);
        x.open(0, 1);
        for (int there = 0; there <= 6; there++) {
            for (int who : new int[] {-1, there, 6, LEAST, GREATEST}) {
                for (int what = 5; what < 7; what++) {
                    due.is("mend", x.mend(who, what, 1), -1);
                    due.is("of", x.of(who, what), -1);
                }
                due.is("finds", x.finds(who, 0), -1);
                due.is("look", x.look(who), -1);
            }
            if (there < 6) due.is("worth by " + there, x.worth(0, there, 0), Due.NONE);
            if (there > 0) due.is("look by the last", x.look(there - 1), 0);
            if (there < 4) due.is("heaps of " + there, x.heaps(1, 9, there + 2), -1);
            x.looker(0);
        }
    }

    private static void sees() {
        due.sentence("SEES (0 .. 12");
        StoneInLentils x = new StoneInLentils();
        due.is("below", x.looker(-1), -1);
        due.is("above", x.looker(1300), -1);
        due.is("the least", x.looker(0), 0);
        due.is("the greatest", x.looker(1200), 1);
        range(x, 0, 5, 0, 12);
        range(x, 1, 5, 0, 12);
        Due.bytes(x, 0, -1, 0);
        due.is("below, from a row", x.lookers(0, 0, 1), 0);
        Due.bytes(x, 0, 13, 0);
        due.is("above, from a row", x.lookers(0, 0, 1), 0);
        Due.bytes(x, 0, 0, 0, 12, 0);
        due.is("both edges, from a row", x.lookers(0, 0, 2), 2);
        due.is("the least", x.of(2, 5), 0);
        due.is("the greatest", x.of(3, 5), 12);
    }

    private static void cost() {
        due.sentence("COST of a look (0 .. 99");
        StoneInLentils x = new StoneInLentils();
        due.is("the least", x.looker(700), 0);
        due.is("the greatest", x.looker(699), 1);
        due.is("the least", x.of(0, 6), 0);
        due.is("the greatest", x.of(1, 6), 99);
        range(x, 0, 6, 0, 99);
        range(x, 1, 6, 0, 99);
        Due.bytes(x, 0, 6, -1);
        due.is("below, from a row", x.lookers(0, 0, 1), 0);
        Due.bytes(x, 0, 6, 100);
        due.is("above, from a row", x.lookers(0, 0, 1), 0);
        Due.bytes(x, 0, 6, 0, 6, 99);
        due.is("both edges, from a row", x.lookers(0, 0, 2), 2);
        due.is("the least", x.of(2, 6), 0);
        due.is("the greatest", x.of(3, 6), 99);
    }

    private static void talk() {
        due.sentence("TALK (0 .. 9; 0 at first)");
        rangeOfAll(7, 0, 0, 9);
    }

    private static void lamp() {
        due.sentence("LAMP (0 .. 9; 5 at first)");
        rangeOfAll(8, 5, 0, 9);
    }

    private static void thick() {
        due.sentence("THICK (1 .. 9; 1 at first)");
        rangeOfAll(9, 1, 1, 9);
    }

    private static void tooth() {
        due.sentence("TOOTH (0 .. 999; 100 at first)");
        rangeOfAll(10, 100, 0, 999);
    }

    private static void wash() {
        due.sentence("WASH (0 .. 12; 4 at first");
        rangeOfAll(11, 4, 0, 12);
    }

    private static void washing() {
        due.sentence("each STONE goes down in so many of twelve; it costs 1");
        StoneInLentils x = new StoneInLentils();
        Due.bytes(x, 0);
        x.mend(0, 11, 0);
        due.is("none goes down", x.worth(0, 6, 0), -1);
        due.is("none goes down", x.worth(0, 6, 1), 1);
        x.mend(0, 11, 12);
        due.is("all go down: 100 by 3/2 less 1", x.worth(0, 6, 0), 149);
        x.mend(0, 11, 1);
        due.is("150 by 12 less 1", x.worth(0, 6, 0), 23);
        due.is("150 by 12 less 1", x.worth(0, 6, 1), 2);
        Due.tell(x, "0");
        due.is("no law tells of washing", x.worth(0, 6, 0), 23);
    }
}
