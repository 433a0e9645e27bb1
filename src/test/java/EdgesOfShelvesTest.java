/** Section 5 of the document's Terms, acts, shelves, and what all answers share: each sentence that names an edge, tested by itself. */
public final class EdgesOfShelvesTest {
    private static final Due due = new Due("EdgesOfShelvesTest");
    private static final int LEAST = Integer.MIN_VALUE, GREATEST = Integer.MAX_VALUE;
    private static final int[] SIZES = {8, 16, 32, 64};

    public static void main(String[] args) {
        fiftyBodies();
        kinds();
        actsThatWrap();
        actsThatWrapBelow();
        latestAct();
        firstTwentyFour();
        sixShelves();
        noOtherShelf();
        sixtyElements();
        zeroAtFirst();
        lowestBits();
        booleans();
        nothingIsThere();
        anotherKind();
        noPlace();
        sizeBelowZero();
        rowIsMissing();
        rowEnds();
        notAsItMayBe();
        lookersAreFull();
        names();
        ownMemory();
        lastOf512();
        due.end();
    }

    /** BODY i is of KIND i. */
    private static StoneInLentils eight() {
        StoneInLentils x = new StoneInLentils();
        for (int kind = 0; kind < 8; kind++) x.body(kind);
        return x;
    }

    private static void fiftyBodies() {
        due.sentence("BODIES 0 .. 49 are kept by call");
        StoneInLentils x = new StoneInLentils();
        for (int i = 0; i < 50; i++) {
            due.is("not there yet", x.keep(0, i), -1);
            due.is("its number", x.body(7 - i % 8), i);
            due.is("so many", x.count(3), i + 1);
        }
        due.is("there is no more room", x.body(0), -3);
        due.is("so many", x.count(3), 50);
        due.is("the last", x.keep(0, 49), 1);
        due.is("the last, of kind 6", x.taken(0, 0), 6);
        due.is("none behind it", x.keep(0, 50), -1);
        due.is("the last: 5 and 49, twice", x.act(49, 0, 5), 108);
        due.is("none behind it", x.act(50, 0, 5), 0);
    }

    private static void kinds() {
        due.sentence("of KINDS: 0 LOOK; 1 QUICK under LOOK; 2 SLOW under LOOK; 3 LAMPED under SLOW; 4 TALKED under QUICK; "
            + "5 WASHED under LAMPED; 6 COUNTED under LOOK; 7 TOOTH under COUNTED.");
        String[] under = {"0", "01", "02", "023", "014", "0235", "06", "067"};
        StoneInLentils x = eight();
        for (int kind = 0; kind < 8; kind++) {
            x.keep(0, kind);
            for (int k = 0; k < 8; k++) due.is("taken", x.taken(0, k), under[kind].indexOf('0' + k) >= 0 ? kind : -12);
        }
        for (int kind : new int[] {-1, 8, LEAST, GREATEST}) {
            due.is("body", x.body(kind), -1);
            due.is("taken", x.taken(0, kind), -1);
        }
    }

    private static void acts(StoneInLentils x, int body, int v, int... want) {
        for (int act = 0; act < 4; act++) due.is("act(" + body + ", " + act + ", " + v + ")", x.act(body, act, v), want[act]);
    }

    private static void actsThatWrap() {
        due.sentence("ACTS with x (an int that wraps)");
        StoneInLentils x = eight();
        int most = GREATEST;
        int least = LEAST;
        acts(x, 0, most, most, -2, most, -3);
        acts(x, 1, most, least + 3, 6, most - 1, 6);
        acts(x, 2, most, least + 1, -2, most - 2, -5);
        // three times the most is the most less 2
        acts(x, 3, most, least + 2, -6, most - 2 - 9, -12);
        acts(x, 4, most, least + 6, 12, most - 4, 2);
        acts(x, 5, most, least + 4, -10, most - 2 - 15 - 7, -14);
        acts(x, 6, most, 10, 20, most - 6, 13);
        acts(x, 7, most, 11, 27, most - 7, 21);
    }

    private static void actsThatWrapBelow() {
        due.sentence("ACTS with x (an int that wraps): 0 picks, 1 finds, 2 leaves, 3 tells; n its number.");
        StoneInLentils x = eight();
        acts(x, 0, LEAST, LEAST, 0, LEAST, -1);
        // three times the least is the least
        acts(x, 3, LEAST, LEAST + 3, -8, LEAST + 9, -14);
        // 2^30 by 2 is the least, and less of it, too
        due.is("slow", x.act(2, 1, (1 << 30) - 2), LEAST);
        // -2^31 - 1
        due.is("tooth", x.act(7, 0, (1 << 30) - 7), GREATEST);
        due.is("no such act", x.act(0, 4, 1), 0);
        due.is("no such act", x.act(0, -1, 1), 0);
    }

    private static void traced(StoneInLentils x, int... want) {
        due.is("so many ran", x.count(4), want.length);
        for (int i = 0; i < want.length; i++) due.is("trace " + i, x.trace(i), want[i]);
        for (int i : new int[] {-1, want.length, 23, 24, LEAST, GREATEST}) due.is("trace " + i, x.trace(i), -1);
    }

    private static void latestAct() {
        due.sentence("THE TRACE: numbers of the bodies that ran in the latest act(), as they began");
        StoneInLentils x = eight();
        traced(x);
        x.act(5, 3, 0);
        traced(x, 61, 2, 41, 30, 10, 1, 60, 40, 11, 1);
        x.act(0, 2, 0);
        traced(x, 11);
        x.act(7, 3, 0);
        traced(x, 2, 80, 10, 81, 70, 1, 11, 11);
        x.act(4, 3, 0);
        traced(x, 50, 2, 10, 20, 1, 11);
        x.act(8, 3, 0);
        traced(x);
        x.act(4, 0, 0);
        traced(x, 20, 1);
        x.act(4, 4, 0);
        traced(x);
    }

    /** No act runs as many as 24 bodies, so all are kept. */
    private static void firstTwentyFour() {
        due.sentence("the first 24 are kept");
        StoneInLentils x = eight();
        int most = 0;
        for (int body = 0; body < 8; body++) {
            for (int act = 0; act < 4; act++) {
                x.act(body, act, 5);
                int ran = x.count(4);
                most = Math.max(most, ran);
                due.holds("the last is kept", x.trace(ran - 1) > 0);
                due.is("none behind it", x.trace(ran), -1);
            }
        }
        due.is("most", most, 10);
    }

    private static void sixShelves() {
        due.sentence("SHELVES 0 .. 5 each hold nothing (at first), a BODY, or a ROW");
        StoneInLentils x = eight();
        for (int shelf = 0; shelf < 6; shelf++) {
            due.is("nothing at first", x.taken(shelf, 0), -11);
            due.is("a body", x.keep(shelf, shelf), 1);
            due.is("a body", x.taken(shelf, 0), shelf);
            due.is("a row", x.row(shelf, 2, 1), 1);
            due.is("a row", x.put(shelf, 0, shelf), 1);
            due.is("no body any more", x.taken(shelf, 0), -12);
        }
        for (int shelf = 0; shelf < 6; shelf++) {
            due.is("each its own", x.element(shelf, 0), shelf);
            due.is("nothing", x.keep(shelf, -1), 1);
            due.is("nothing", x.put(shelf, 0, 1), -11);
            due.is("the others stay", shelf < 5 ? x.element(shelf + 1, 0) : 6, shelf + 1);
        }
    }

    private static void noOtherShelf() {
        due.sentence("BAD (-1): no such number");
        StoneInLentils x = eight();
        x.looker(605);
        Due.bytes(x, 0, 0, 0);
        for (int shelf : new int[] {-1, 6, LEAST, GREATEST}) {
            due.is("lookers", x.lookers(shelf, 0, 1), -1);
            due.is("left", x.left(shelf, 0, 0, 0), Due.NONE);
            due.is("mean", x.mean(shelf, 0, 2, 0), Due.NONE);
            due.is("worth", x.worth(shelf, 0, 0), Due.NONE);
            due.is("next", x.next(shelf, 0), -1);
            due.is("who", x.who(shelf, 0, 0, 0), -1);
            due.is("drawn", x.drawn(shelf, 0, 1, 0), -1);
            due.is("keep", x.keep(shelf, 0), -1);
            due.is("keep nothing", x.keep(shelf, -1), -1);
            due.is("row", x.row(shelf, 0, 1), -1);
            due.is("put", x.put(shelf, 0, 1), -1);
            due.is("element", x.element(shelf, 0), Due.NONE);
            due.is("shift from", x.shift(shelf, 0, 0, 0, 1), -1);
            due.is("shift to", x.shift(0, 0, shelf, 0, 1), -1);
            due.is("taken", x.taken(shelf, 0), -1);
        }
    }

    private static void sixtyElements() {
        due.sentence("of 0 bytes, 1 shorts, 2 ints, 3 longs, 4 booleans, of 0 .. 60 elements");
        StoneInLentils x = new StoneInLentils();
        for (int sort = 0; sort < 5; sort++) {
            due.is("empty", x.row(sort, sort, 0), 1);
            due.is("it has no place", x.put(sort, 0, 1), -13);
            due.is("it has no place", x.element(sort, 0), Due.NONE);
            due.is("none come of it", x.shift(sort, 0, sort, 0, 0), 0);
            due.is("sixty", x.row(sort, sort, 60), 1);
            due.is("the last place", x.put(sort, 59, 1), 1);
            due.is("the last place", x.element(sort, 59), 1);
            due.is("none behind it", x.put(sort, 60, 1), -13);
            due.is("none behind it", x.element(sort, 60), Due.NONE);
            for (int n : new int[] {61, 1000, GREATEST}) due.is("n " + n, x.row(sort, sort, n), -1);
            due.is("the row stays", x.element(sort, 59), 1);
        }
        for (int sort : new int[] {-1, 5, LEAST, GREATEST}) due.is("sort " + sort, x.row(0, sort, 1), -1);
        due.is("the row stays", x.element(0, 59), 1);
    }

    private static void zeroAtFirst() {
        due.sentence("0 at first (false)");
        for (int sort = 0; sort < 5; sort++) {
            StoneInLentils x = new StoneInLentils();
            x.row(1, sort, 60);
            for (int i = 0; i < 60; i++) due.is("at first", x.element(1, i), 0);
            for (int i = 0; i < 60; i++) x.put(1, i, 1);
            x.row(1, sort, 59);
            for (int i = 0; i < 59; i++) due.is("a new row", x.element(1, i), 0);
            x.row(1, sort, 60);
            due.is("its last", x.element(1, 59), 0);
        }
    }

    private static void lowestBits() {
        due.sentence("what is put in keeps its lowest bits");
        StoneInLentils x = new StoneInLentils();
        for (int sort = 0; sort < 4; sort++) {
            x.row(sort, sort, 1);
            long half = 1L << (SIZES[sort] - 1);
            long[] put = {half - 1, -half, half, -half - 1, 2 * half - 1, 2 * half, 2 * half + 5, Long.MAX_VALUE, Long.MIN_VALUE, -1, 0};
            long[] kept = {half - 1, -half, -half, half - 1, -1, 0, 5, -1, 0, -1, 0};
            if (sort == 3) {
                kept[7] = Long.MAX_VALUE;
                kept[8] = Long.MIN_VALUE;
            }
            for (int i = 0; i < put.length; i++) {
                due.is("put", x.put(sort, 0, put[i]), 1);
                due.is("sort " + sort + " keeps of " + put[i], x.element(sort, 0), kept[i]);
            }
        }
    }

    private static void booleans() {
        due.sentence("(a boolean: whether it is not 0; 1 or 0)");
        StoneInLentils x = new StoneInLentils();
        x.row(0, 4, 1);
        for (long v : new long[] {1, -1, 2, 256, 1L << 32, Long.MAX_VALUE, Long.MIN_VALUE}) {
            x.put(0, 0, v);
            due.is("of " + v, x.element(0, 0), 1);
            x.put(0, 0, 0);
            due.is("of 0", x.element(0, 0), 0);
        }
    }

    private static void nothingIsThere() {
        due.sentence("-11 nothing is there where something is wanted");
        StoneInLentils x = eight();
        x.row(1, 0, 4);
        x.keep(0, 3);
        x.keep(0, -1);
        for (int shelf : new int[] {0, 2}) {
            due.is("next", x.next(shelf, 0), -11);
            for (int what = 0; what < 3; what++) due.is("who", x.who(shelf, 0, what, 0), -11);
            for (int what = 0; what < 2; what++) due.is("drawn", x.drawn(shelf, 0, 1, what), -11);
            due.is("put", x.put(shelf, 0, 1), -11);
            due.is("element", x.element(shelf, 0), Due.NONE);
            due.is("shift from", x.shift(shelf, 0, 1, 0, 1), -11);
            due.is("shift to", x.shift(1, 0, shelf, 0, 1), -11);
            due.is("shift both", x.shift(shelf, 0, shelf, 0, 0), -11);
            for (int k = 0; k < 8; k++) due.is("taken", x.taken(shelf, k), -11);
        }
    }

    private static void anotherKind() {
        due.sentence("-12 it is of another kind");
        StoneInLentils x = eight();
        for (int sort = 1; sort < 5; sort++) x.row(sort, sort, 4);
        x.keep(5, 4);
        for (int shelf = 1; shelf < 6; shelf++) {
            due.is("lookers", x.lookers(shelf, 0, 1), -12);
            due.is("next", x.next(shelf, 0), -12);
            due.is("who", x.who(shelf, 0, 0, 0), -12);
            due.is("drawn", x.drawn(shelf, 0, 1, 0), -12);
            due.is("left", x.left(shelf, 0, 0, 0), Due.NONE);
            due.is("mean", x.mean(shelf, 0, 0, 0), Due.NONE);
            due.is("worth", x.worth(shelf, 6, 0), Due.NONE);
            due.is("taken", x.taken(shelf, 2), -12);
            for (int other = 1; other < 6; other++) {
                due.is("shift", x.shift(shelf, 0, other, 1, 1), shelf == other && shelf < 5 ? 1 : -12);
            }
        }
        due.is("put", x.put(5, 0, 1), -12);
        due.is("element", x.element(5, 0), Due.NONE);
    }

    private static void noPlace() {
        due.sentence("-13 a place that is not there");
        StoneInLentils x = new StoneInLentils();
        Due.bytes(x, 0, 1, 2, 3);
        Due.bytes(x, 1, 4, 5);
        for (int i : new int[] {-1, 3, LEAST, GREATEST}) {
            due.is("put", x.put(0, i, 9), -13);
            due.is("element", x.element(0, i), Due.NONE);
            due.is("shift from", x.shift(0, i, 1, 0, 1), -13);
            due.is("shift to", x.shift(1, 0, 0, i, 1), -13);
        }
        int[][] shifts = {{0, 0, 3}, {1, 0, 3}, {2, 0, 2}, {0, 1, 2}, {3, 0, 1}, {4, 0, 0}, {0, 3, 0}, {-1, 0, 0}, {0, -1, 0}, {0, 0, -1},
            {2, 0, GREATEST}, {GREATEST, 0, 2}, {0, GREATEST, 2}, {1, 1, LEAST}, {LEAST, 0, LEAST}};
        for (int[] s : shifts) due.is("shift " + s[0] + " " + s[1] + " " + s[2], x.shift(0, s[0], 1, s[1], s[2]), -13);
        due.is("none, from the end to the end", x.shift(0, 3, 1, 2, 0), 0);
        for (int i = 0; i < 3; i++) due.is("it stays", x.element(0, i), i + 1);
        for (int i = 0; i < 2; i++) due.is("it stays", x.element(1, i), i + 4);
    }

    private static void sizeBelowZero() {
        due.sentence("-14 a size below 0");
        StoneInLentils x = new StoneInLentils();
        for (int sort = 0; sort < 5; sort++) {
            for (int n : new int[] {-1, -60, LEAST}) due.is("n " + n, x.row(sort, sort, n), -14);
            due.is("nothing is there still", x.put(sort, 0, 1), -11);
        }
        Due.bytes(x, 0, 7);
        due.is("n -1", x.row(0, 3, -1), -14);
        due.is("the row stays", x.element(0, 0), 7);
        x.put(0, 0, 256);
        due.is("its sort stays", x.element(0, 0), 0);
    }

    private static void rowIsMissing() {
        due.sentence("n of them; it ends where the row is missing");
        StoneInLentils x = eight();
        for (int n = 1; n <= 6; n++) due.is("none came", x.lookers(0, 0, n), 0);
        x.keep(0, 1);
        x.keep(0, -1);
        due.is("none came", x.lookers(0, 5, 2), 0);
        due.is("nobody", x.count(0), 0);
        due.is("n 0", x.lookers(0, 0, 0), -1);
        due.is("n 7", x.lookers(0, 0, 7), -1);
    }

    private static void rowEnds() {
        due.sentence("ends (within a two, too)");
        int[] bytes = {1, 10, 2, 20, 3, 30, 4, 40, 5, 50, 6, 60, 7};
        for (int size = 0; size <= 13; size++) {
            StoneInLentils x = new StoneInLentils();
            Due.bytes(x, 0, java.util.Arrays.copyOf(bytes, size));
            int came = Math.min(6, size / 2);
            due.is("came", x.lookers(0, 0, 6), came);
            due.is("they came", x.count(0), came);
            for (int who = 0; who < came; who++) {
                due.is("SEES", x.of(who, 5), who + 1);
                due.is("COST", x.of(who, 6), 10 * who + 10);
            }
        }
        StoneInLentils x = new StoneInLentils();
        Due.bytes(x, 0, 1, 10, 2, 11);
        for (int i : new int[] {-1, -2, 3, 4, 5, LEAST, GREATEST, GREATEST - 1}) due.is("from " + i, x.lookers(0, i, 1), 0);
        due.is("from 1", x.lookers(0, 1, 6), 1);
        due.is("from 2", x.lookers(0, 2, 6), 1);
        int[] want = {10, 2, 2, 11};
        for (int i = 0; i < 4; i++) due.is("came", x.of(i / 2, 5 + i % 2), want[i]);
    }

    private static void notAsItMayBe() {
        due.sentence("one is not as it may be");
        int[][] wrong = {{-1, 0}, {13, 0}, {0, -1}, {0, 100}, {127, 127}, {-128, -128}};
        for (int[] two : wrong) {
            StoneInLentils x = new StoneInLentils();
            Due.bytes(x, 0, 12, 99, 0, 0, two[0], two[1], 5, 5);
            due.is("those ahead came", x.lookers(0, 0, 6), 2);
            due.is("two", x.count(0), 2);
            due.is("the edge", x.of(0, 5), 12);
            due.is("the edge", x.of(0, 6), 99);
            due.is("at once", x.lookers(0, 4, 2), 0);
            due.is("behind it", x.lookers(0, 6, 2), 1);
        }
    }

    private static void lookersAreFull() {
        due.sentence("or LOOKERS are FULL: those ahead came");
        for (int there = 0; there <= 6; there++) {
            StoneInLentils x = new StoneInLentils();
            for (int i = 0; i < there; i++) x.looker(0);
            Due.bytes(x, 0, 1, 1, 2, 2, 3, 3, 4, 4, 5, 5, 6, 6);
            due.is("came", x.lookers(0, 0, 6), 6 - there);
            due.is("six", x.count(0), 6);
            for (int who = there; who < 6; who++) due.is("SEES", x.of(who, 5), who - there + 1);
            due.is("none came", x.lookers(0, 0, 1), 0);
        }
    }

    private static void names() {
        due.sentence("VOID is -2000000000.");
        due.is("BAD", StoneInLentils.BAD, -1);
        due.is("NOT", StoneInLentils.NOT, -2);
        due.is("FULL", StoneInLentils.FULL, -3);
        due.is("STATE", StoneInLentils.STATE, -5);
        due.is("VOID", StoneInLentils.VOID, -2000000000);
    }

    private static void ownMemory() {
        due.sentence("All memory is the class's own.");
        StoneInLentils x = new StoneInLentils();
        StoneInLentils y = new StoneInLentils();
        x.looker(605);
        Due.tell(x, "5");
        x.feed('s');
        x.mend(0, 10, 3);
        x.body(6);
        x.act(0, 3, 1);
        x.open(0, 1);
        x.image();
        x.row(0, 0, 5);
        for (int what = 0; what < 5; what++) due.is("count", y.count(what), 0);
        due.is("the other's number", y.of(0, 10), 100);
        due.is("the other's bag", y.led(5), -5);
        due.is("the other's image", y.back(), -5);
        due.is("the other's shelf", y.put(0, 0, 1), -11);
        y.looker(900);
        due.is("the other's law", y.finds(0, 0), 9);
        due.is("one's own law", x.finds(0, 0), 5);
        due.is("one's own tape", x.count(1), 1);
    }

    private static void lastOf512() {
        due.sentence("An object is used for at most 512 calls");
        StoneInLentils x = new StoneInLentils();
        for (int i = 1; i <= 510; i++) x.mend(0, 10, i);
        due.is("call 511", x.of(0, 10), 510);
        due.is("call 512", x.undo(), 39);
        StoneInLentils y = new StoneInLentils();
        y.looker(0);
        Due.weights(y, 0, 0, 0, 0, 1);
        y.open(0, 1);
        for (int i = 0; i < 504; i++) y.look(0);
        due.is("call 511", y.led(5), 504);
        due.is("call 512", y.eat(), 3);
    }
}
