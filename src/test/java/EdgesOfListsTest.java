/** Section 3 of the document's Terms, lists, stones put in, handfuls, heaps: each sentence that names an edge, tested by itself. */
public final class EdgesOfListsTest {
    private static final Due due = new Due("EdgesOfListsTest");
    private static final int LEAST = Integer.MIN_VALUE, GREATEST = Integer.MAX_VALUE;

    public static void main(String[] args) {
        noMoreThanEither();
        eachUpToTwenty();
        cIsZero();
        noneFound();
        upToSixty();
        likeNs();
        putIn();
        foundOfThem();
        twelfths();
        likeTwelfths();
        besides();
        thatIsZero();
        together();
        stonesNoMoreThanN();
        handOfH();
        noneInTheBagThen();
        heapsUpToForty();
        costAHeapEach();
        oneMoreForFive();
        thickBeyondItsOwn();
        notForMore();
        forTheLeastCost();
        fewestForTheFirst();
        heapsMayBeLeft();
        threeAtMost();
        due.end();
    }

    private static void is(String what, long above, long below, long wantAbove, long wantBelow) {
        due.is(what + ": above", above, wantAbove);
        due.is(what + ": below", below, wantBelow);
    }

    private static void lists(StoneInLentils x, int abc, int what, long above, long below) {
        is("lists " + abc, x.lists(abc, what, 0), x.lists(abc, what, 1), above, below);
    }

    private static void isNoList(StoneInLentils x, int abc) {
        for (int what = 0; what < 2; what++) {
            for (int part = 0; part < 2; part++) due.is("lists " + abc, x.lists(abc, what, part), Due.NONE);
        }
        due.is("likeliest " + abc, x.likeliest(abc), -1);
    }

    private static void noMoreThanEither() {
        due.sentence("c of them both (c no more than a, b");
        StoneInLentils x = new StoneInLentils();
        lists(x, 30303, 0, 3, 1);
        lists(x, 30503, 0, 5, 1);
        lists(x, 50303, 0, 5, 1);
        isNoList(x, 30304);
        isNoList(x, 30504);
        isNoList(x, 50304);
        isNoList(x, 1);
        isNoList(x, 10001);
        isNoList(x, 101);
        isNoList(x, 202021);
    }

    private static void eachUpToTwenty() {
        due.sentence("(c no more than a, b; 0 .. 20)");
        StoneInLentils x = new StoneInLentils();
        lists(x, 202020, 0, 20, 1);
        lists(x, 200101, 0, 20, 1);
        lists(x, 12001, 0, 20, 1);
        lists(x, 202001, 0, 400, 1);
        for (int abc : new int[] {210000, 210101, 2100, 12101, 212121, 200099, 209901, -1, -10101, LEAST, GREATEST, 1000000}) isNoList(x, abc);
    }

    private static void cIsZero() {
        due.sentence("a times b by c: a fraction (NOT: c is 0)");
        StoneInLentils x = new StoneInLentils();
        for (int abc : new int[] {0, 10000, 100, 10100, 202000}) {
            for (int what = 0; what < 2; what++) {
                for (int part = 0; part < 2; part++) due.is("lists " + abc, x.lists(abc, what, part), -2);
            }
        }
        lists(x, 10101, 0, 1, 1);
        lists(x, 30302, 0, 9, 2);
        lists(x, 60604, 0, 9, 1);
    }

    private static void noneFound() {
        due.sentence("how many none found: that less a less b and c");
        StoneInLentils x = new StoneInLentils();
        lists(x, 10101, 1, 0, 1);
        lists(x, 202020, 1, 0, 1);
        lists(x, 200101, 1, 0, 1);
        lists(x, 202019, 1, 1, 19);
        lists(x, 202001, 1, 361, 1);
        lists(x, 50403, 1, 2, 3);
    }

    private static void upToSixty() {
        due.sentence("LIKELIEST: the N (a + b - c .. 60)");
        StoneInLentils x = new StoneInLentils();
        int[][] cases = {{10101, 1}, {202020, 20}, {202001, 60}, {202000, 60}, {10100, 60}, {191906, 60}, {202007, 57}, {202006, 60},
            {201901, 60}, {30303, 3}, {202019, 21}};
        for (int[] c : cases) due.is("likeliest " + c[0], x.likeliest(c[0]), c[1]);
    }

    private static void likeNs() {
        due.sentence("if all pairs of lists of a and b out of N are as likely (of like ones the least)");
        StoneInLentils x = new StoneInLentils();
        // if a b by c is a whole number, it is as likely as one less
        int[][] cases = {{40302, 5}, {20201, 3}, {201505, 59}, {201806, 59}, {0, 0}, {200000, 20}, {2000, 20}, {100, 1}, {10000, 1}};
        for (int[] c : cases) due.is("likeliest " + c[0], x.likeliest(c[0]), c[1]);
    }

    private static void isNotPutIn(StoneInLentils x, int mf) {
        due.is("sees for " + mf, x.seesFor(mf), -1);
        for (int part = 0; part < 2; part++) due.is("besides " + mf, x.besides(mf, 1, part), Due.NONE);
    }

    private static void putIn() {
        due.sentence("PUT IN: of m STONES put in (1 .. 20)");
        StoneInLentils x = new StoneInLentils();
        due.is("one", x.seesFor(101), 12);
        due.is("twenty", x.seesFor(2010), 6);
        for (int mf : new int[] {0, 1, 99, 2100, 2110, -1, -100, -201, LEAST, GREATEST}) isNotPutIn(x, mf);
    }

    private static void foundOfThem() {
        due.sentence("a LOOKER found f");
        StoneInLentils x = new StoneInLentils();
        for (int m = 1; m <= 20; m++) {
            due.is("none", x.seesFor(100 * m), 0);
            due.is("all", x.seesFor(100 * m + m), 12);
            isNotPutIn(x, 100 * m + m + 1);
        }
        isNotPutIn(x, 199);
    }

    private static void twelfths() {
        due.sentence("SEES FOR: the twelfths (0 .. 12) by which that is likeliest");
        StoneInLentils x = new StoneInLentils();
        for (int f = 0; f <= 12; f++) due.is("of twelve " + f, x.seesFor(1200 + f), f);
        // 11^19 is more than 2 10^19; 19 of 20 likewise
        due.is("one of twenty", x.seesFor(2001), 1);
        due.is("nineteen of twenty", x.seesFor(2019), 11);
        // 5^9 7^11 against 6^20: 3861 10^12 against 3656 10^12
        due.is("nine of twenty", x.seesFor(2009), 5);
        due.is("eleven of twenty", x.seesFor(2011), 7);
    }

    /** No two twelfths are ever alike for the likeliest; where it is a whole number of them, it is just that. */
    private static void likeTwelfths() {
        due.sentence("(of like ones the least); then of g found besides");
        StoneInLentils x = new StoneInLentils();
        for (int m = 2; m <= 20; m += 2) due.is("a half of " + m, x.seesFor(100 * m + m / 2), 6);
        for (int m = 3; m <= 18; m += 3) due.is("a third of " + m, x.seesFor(100 * m + m / 3), 4);
        for (int m = 4; m <= 20; m += 4) due.is("a quarter of " + m, x.seesFor(100 * m + m / 4), 3);
    }

    private static void besides() {
        due.sentence("g times 12 by that: a fraction");
        StoneInLentils x = new StoneInLentils();
        is("none", x.besides(101, 0, 0), x.besides(101, 0, 1), 0, 1);
        is("99 by 12", x.besides(101, 99, 0), x.besides(101, 99, 1), 99, 1);
        is("99 by 1", x.besides(1201, 99, 0), x.besides(1201, 99, 1), 1188, 1);
        is("1 by 5", x.besides(1205, 1, 0), x.besides(1205, 1, 1), 12, 5);
        is("10 by 8", x.besides(302, 10, 0), x.besides(302, 10, 1), 15, 1);
        for (int g : new int[] {-1, 100, LEAST, GREATEST}) {
            due.is("g " + g, x.besides(201, g, 0), Due.NONE);
            due.is("g ahead of NOT " + g, x.besides(200, g, 0), Due.NONE);
        }
    }

    private static void thatIsZero() {
        due.sentence("NOT: that is 0");
        StoneInLentils x = new StoneInLentils();
        for (int m = 1; m <= 20; m++) {
            for (int part = 0; part < 2; part++) {
                due.is("g 0", x.besides(100 * m, 0, part), -2);
                due.is("g 99", x.besides(100 * m, 99, part), -2);
            }
            due.holds("f 1", x.besides(100 * m + 1, 0, 0) == 0);
        }
    }

    private static void handful(StoneInLentils x, int nh, int what, long above, long below) {
        is("handful " + nh + " " + what, x.handful(0, nh, what, 0), x.handful(0, nh, what, 1), above, below);
    }

    private static void together() {
        due.sentence("of a BAG of N lentils and STONES together (1 .. 60");
        StoneInLentils x = new StoneInLentils();
        handful(x, 100, 0, 1, 1);
        handful(x, 101, 0, 1, 2);
        handful(x, 6060, 0, 1, 4);
        // h is N less 3: 61 by 58 of the 4
        handful(x, 6057, 0, 61, 232);
        for (int nh : new int[] {0, 1, 99, 6100, 6101, 6161, -1, -101, LEAST, GREATEST}) {
            for (int what = 0; what < 2; what++) {
                for (int part = 0; part < 2; part++) due.is("handful " + nh, x.handful(0, nh, what, part), Due.NONE);
            }
        }
    }

    private static void stonesNoMoreThanN() {
        due.sentence("STONES as by WEIGHTS, no more than N)");
        StoneInLentils x = new StoneInLentils();
        Due.weights(x, 0, 1, 2, 3, 4);
        handful(x, 101, 0, 1, 3);
        handful(x, 202, 0, 1, 6);
        handful(x, 303, 0, 1, 10);
        handful(x, 404, 0, 1, 10);
        handful(x, 201, 0, 1, 3);
        // (1 + 2 2/3 + 3 1/3 + 0) / 10
        handful(x, 301, 0, 1, 3);
        Due.weights(x, 0, 1, 0, 0, 9);
        handful(x, 202, 0, 1, 1);
        handful(x, 303, 0, 1, 10);
    }

    private static void handOfH() {
        due.sentence("a handful of h (0 .. N) has none: how likely");
        StoneInLentils x = new StoneInLentils();
        for (int n = 1; n <= 60; n++) {
            handful(x, 100 * n, 0, 1, 1);
            handful(x, 101 * n, 0, 1, Math.min(n, 3) + 1);
            due.is("more than all", x.handful(0, 101 * n + 1, 0, 0), Due.NONE);
        }
        due.is("far more than all", x.handful(0, 199, 0, 0), Due.NONE);
        handful(x, 401, 0, 5, 8);
        Due.weights(x, 0, 0, 0, 0, 1);
        handful(x, 303, 0, 0, 1);
        handful(x, 301, 0, 0, 1);
        handful(x, 401, 0, 1, 4);
        handful(x, 402, 0, 0, 1);
    }

    private static void noneInTheBagThen() {
        due.sentence("how likely there is none in the BAG then: fractions");
        StoneInLentils x = new StoneInLentils();
        handful(x, 100, 1, 1, 2);
        handful(x, 101, 1, 1, 1);
        handful(x, 200, 1, 1, 3);
        handful(x, 201, 1, 2, 3);
        handful(x, 6000, 1, 1, 4);
        handful(x, 6060, 1, 1, 1);
        handful(x, 6057, 1, 58, 61);
        x.mend(0, 0, 0);
        handful(x, 6057, 1, 0, 1);
        handful(x, 6059, 1, 0, 1);
        // the bag has one stone or more, so a handful of all has one
        handful(x, 6060, 1, -2, -2);
        handful(x, 6060, 0, 0, 1);
    }

    private static void heaps(StoneInLentils x, int n, int m, int... want) {
        for (int what = 0; what < want.length; what++) {
            due.is("heaps(" + n + ", " + m + ", " + what + ")", x.heaps(n, m, what), want[what]);
        }
    }

    private static StoneInLentils by(int... lookers) {
        StoneInLentils x = new StoneInLentils();
        for (int sc : lookers) x.looker(sc);
        return x;
    }

    private static void heapsUpToForty() {
        due.sentence("HEAPS: a BAG of n heaps (1 .. 40)");
        StoneInLentils x = by(1200, 1200, 1200);
        heaps(x, 1, 0, 12, 0, 0, 0, 1);
        // all forty by 10, with 14 at most each, are 400; 9, 14, 14 are 379
        heaps(x, 40, 0, 400, 0, 12, 14, 14);
        for (int n : new int[] {0, -1, 41, LEAST, GREATEST}) {
            for (int what = 0; what < 5; what++) due.is("n " + n, x.heaps(n, 9, what), -1);
        }
    }

    private static void costAHeapEach() {
        due.sentence("COST a heap each; each heap by one LOOKER");
        heaps(by(1207), 3, 999, 36, 21, 3);
        heaps(by(1207, 1205), 6, 999, 72, 34, 2, 4);
        heaps(by(0, 0, 900), 3, 0, 27, 0, 0, 0, 3);
        heaps(by(0, 900, 0), 3, 0, 27, 0, 0, 3, 0);
        heaps(by(900, 0, 0), 3, 0, 27, 0, 3, 0, 0);
        // 4 by 10, 4 by 9, 2 by 8
        heaps(by(1001, 902, 803), 10, 999, 92, 18, 4, 4, 2);
        for (int n = 1; n <= 40; n++) {
            StoneInLentils x = by(1200, 1200, 1200);
            due.holds("no heap by two", x.heaps(n, 0, 2) + x.heaps(n, 0, 3) + x.heaps(n, 0, 4) <= n);
        }
    }

    private static void oneMoreForFive() {
        due.sentence("it lies as if THICK were 1 more for each 5 heaps (cut) that this LOOKER has)");
        StoneInLentils x = by(0);
        Due.tell(x, "h");
        for (int n = 1; n <= 40; n++) heaps(x, n, 999, n * (1 + n / 5), 0, n);
        StoneInLentils y = by(0, 0);
        Due.tell(y, "h");
        // this looker alone: 1 and 9 are 1 and 18, 0 and 10 are 30
        heaps(y, 10, 999, 30, 0, 0, 10);
    }

    private static void thickBeyondItsOwn() {
        due.sentence("n parted so that in all most twelfths are looked (heaps times what it finds of twelve)");
        StoneInLentils x = by(0);
        x.mend(0, 9, 9);
        Due.tell(x, "h>16?h-16;0");
        heaps(x, 40, 999, 40, 0, 40);
        heaps(x, 39, 999, 0, 0, 0);
        Due.tell(x, "n?12;0");
        heaps(x, 40, 999, 0, 0, 0);
        Due.tell(x, "99");
        heaps(x, 40, 999, 480, 0, 40);
        Due.tell(x, "-99");
        heaps(x, 40, 999, 0, 0, 0);
    }

    private static void notForMore() {
        due.sentence("not for more than m (0 .. 999) in all");
        StoneInLentils x = by(1201);
        heaps(x, 40, 0, 0, 0, 0);
        heaps(x, 40, 1, 12, 1, 1);
        heaps(x, 40, 23, 184, 23, 23);
        heaps(x, 40, 24, 192, 24, 24);
        heaps(x, 40, 999, 204, 34, 34);
        for (int m : new int[] {-1, 1000, LEAST, GREATEST}) {
            for (int what = 0; what < 3; what++) due.is("m " + m, x.heaps(1, m, what), -1);
        }
        StoneInLentils y = by(1299, 1299, 1299);
        // ten heaps of 99 are 990
        heaps(y, 40, 999, 120, 990, 2, 4, 4);
        heaps(y, 40, 989, 108, 891, 1, 4, 4);
        heaps(y, 40, 98, 0, 0, 0, 0, 0);
        heaps(y, 40, 99, 12, 99, 0, 0, 1);
    }

    private static void forTheLeastCost() {
        due.sentence("of like ones for the least cost");
        heaps(by(1209, 1203, 1203), 1, 999, 12, 3, 0, 0, 1);
        heaps(by(1203, 1209, 1209), 1, 999, 12, 3, 1, 0, 0);
        heaps(by(1209, 1203, 1209), 1, 999, 12, 3, 0, 1, 0);
        // 4 heaps by 4 are 16 for 40, 5 heaps by 3 are 15 for 50
        heaps(by(410), 5, 999, 16, 40, 4);
        heaps(by(5), 40, 999, 0, 0, 0);
    }

    private static void fewestForTheFirst() {
        due.sentence("then fewest heaps for LOOKER 0, then 1, and so on");
        heaps(by(1200, 1200), 1, 0, 12, 0, 0, 1);
        heaps(by(1200, 1200, 1200), 4, 0, 48, 0, 0, 0, 4);
        heaps(by(1200, 1200, 1200), 5, 0, 60, 0, 0, 1, 4);
        heaps(by(1200, 1200, 1200), 9, 0, 108, 0, 1, 4, 4);
        heaps(by(0, 0, 0), 40, 0, 0, 0, 0, 0, 0);
    }

    private static void heapsMayBeLeft() {
        due.sentence("(Heaps may be left");
        // 29 by 7 are 203, 33 by 6 are 198, 34 by 6 are 204, 40 by 4 are 160
        heaps(by(1200), 33, 0, 203, 0, 29);
        heaps(by(1200), 34, 0, 204, 0, 34);
        heaps(by(1200), 40, 0, 204, 0, 34);
        heaps(by(0), 40, 0, 0, 0, 0);
    }

    private static void threeAtMost() {
        due.sentence("3 LOOKERS at most, else STATE.)");
        heaps(by(), 40, 999, 0, 0, -1);
        heaps(by(100, 100, 100), 3, 0, 3, 0, 0, 0, 3, -1);
        StoneInLentils x = by();
        Due.tell(x, "12");
        heaps(x, 40, 999, 0, 0, -1);
        x.looker(9);
        heaps(x, 2, 999, 24, 18, 2, -1);
        heaps(by(100, 100, 100, 100), 3, 0, -5, -5, -5, -5, -5, -5, -1);
        heaps(by(100, 100, 100, 100, 100, 100), 40, 999, -5, -5, -5, -5, -5, -5, -5, -5, -1);
    }
}
