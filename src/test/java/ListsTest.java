import java.math.BigInteger;

/** Promises 15 to 20: two lists, stones put in, handfuls, heaps. */
public final class ListsTest {
    private static final Due due = new Due("ListsTest");

    public static void main(String[] args) {
        lists();
        likeliest();
        seesFor();
        besides();
        handful();
        heaps();
        wrongOnes();
        due.end();
    }

    private static void lists() {
        StoneInLentils x = new StoneInLentils();
        due.is("15: 3 by 2 by 1", x.lists(30201, 0, 0), 6);
        due.is("15: 3 by 2 by 1", x.lists(30201, 0, 1), 1);
        due.is("15: less 3, 2 and 1", x.lists(30201, 1, 0), 2);
        due.is("15: 5 by 4 by 3", x.lists(50403, 0, 0), 20);
        due.is("15: 5 by 4 by 3", x.lists(50403, 0, 1), 3);
        due.is("15: 20/3 less 6", x.lists(50403, 1, 0), 2);
        due.is("15: 20/3 less 6", x.lists(50403, 1, 1), 3);
        due.is("15: in lowest terms", x.lists(60604, 0, 0), 9);
        due.is("15: all found by both", x.lists(202020, 1, 0), 0);
        due.is("15: all found by both", x.lists(202020, 1, 1), 1);
        for (int what = 0; what < 2; what++) {
            for (int part = 0; part < 2; part++) due.is("15: c is 0", x.lists(30200, what, part), -2);
        }
    }

    private static BigInteger choose(int n, int k) {
        BigInteger ways = BigInteger.ONE;
        for (int i = 0; i < k; i++) ways = ways.multiply(BigInteger.valueOf(n - i)).divide(BigInteger.valueOf(i + 1));
        return k < 0 || k > n ? BigInteger.ZERO : ways;
    }

    /** By what the document says, with all N tried. */
    private static void likeliest() {
        StoneInLentils x = null;
        for (int a = 0; a <= 20; a++) {
            x = new StoneInLentils();
            for (int b = 0; b <= 20; b++) {
                for (int c = 0; c <= Math.min(a, b); c++) {
                    int best = a + b - c;
                    BigInteger above = BigInteger.ZERO;
                    BigInteger below = BigInteger.ONE;
                    for (int n = a + b - c; n <= 60; n++) {
                        BigInteger ways = choose(a, c).multiply(choose(n - a, b - c));
                        if (ways.multiply(below).compareTo(above.multiply(choose(n, b))) > 0) {
                            best = n;
                            above = ways;
                            below = choose(n, b);
                        }
                    }
                    int abc = 10000 * a + 100 * b + c;
                    due.is("16: likeliest(" + abc + ")", x.likeliest(abc), best);
                }
            }
        }
        due.is("16: 4 by 3 by 2 is 6: 5 and 6 are alike", x.likeliest(40302), 5);
        due.is("16: none in both", x.likeliest(10100), 60);
    }

    private static void seesFor() {
        StoneInLentils x = new StoneInLentils();
        for (int m = 1; m <= 20; m++) {
            for (int f = 0; f <= m; f++) {
                int best = 0;
                BigInteger most = BigInteger.valueOf(-1);
                for (int p = 0; p <= 12; p++) {
                    BigInteger likely = BigInteger.valueOf(p).pow(f).multiply(BigInteger.valueOf(12 - p).pow(m - f));
                    if (likely.compareTo(most) > 0) {
                        best = p;
                        most = likely;
                    }
                }
                due.is("17: seesFor(" + (100 * m + f) + ")", x.seesFor(100 * m + f), best);
            }
        }
        due.is("17: a half", x.seesFor(201), 6);
    }

    private static void besides() {
        StoneInLentils x = new StoneInLentils();
        due.is("18: by a half", x.besides(201, 5, 0), 10);
        due.is("18: by a half", x.besides(201, 5, 1), 1);
        due.is("18: by 8 of 12", x.besides(302, 5, 0), 15);
        due.is("18: by 8 of 12", x.besides(302, 5, 1), 2);
        due.is("18: none", x.besides(302, 0, 0), 0);
        due.is("18: none", x.besides(302, 0, 1), 1);
        due.is("18: NOT", x.besides(300, 0, 0), -2);
        due.is("18: NOT", x.besides(300, 9, 1), -2);
        due.is("18: 99", x.besides(1201, 99, 0), 1188);
    }

    private static void handful() {
        StoneInLentils x = new StoneInLentils();
        // of 2: none, one or two alike; a handful of one has none by 1, 1/2, 0
        due.is("19: of two", x.handful(0, 201, 0, 0), 1);
        due.is("19: of two", x.handful(0, 201, 0, 1), 2);
        due.is("19: none then", x.handful(0, 201, 1, 0), 2);
        due.is("19: none then", x.handful(0, 201, 1, 1), 3);
        due.is("19: all of it", x.handful(0, 6060, 0, 0), 1);
        due.is("19: all of it", x.handful(0, 6060, 0, 1), 4);
        due.is("19: all of it", x.handful(0, 6060, 1, 0), 1);
        due.is("19: an empty hand", x.handful(0, 6000, 0, 1), 1);
        due.is("19: an empty hand", x.handful(0, 6000, 1, 1), 4);
        x.mend(0, 0, 0);
        due.is("19: none in the bag cannot be", x.handful(0, 6003, 1, 0), 0);
        due.is("19: NOT", x.handful(0, 6060, 1, 0), -2);
        due.is("19: NOT", x.handful(0, 6060, 1, 1), -2);
        x.mend(0, 1, 0);
        due.is("19: two or three cannot be of one: no stone", x.handful(0, 101, 0, 0), 1);
        due.is("19: two or three cannot be of one: no stone", x.handful(0, 101, 0, 1), 1);
        due.is("19: two or three cannot be of one: no stone", x.handful(0, 101, 1, 0), 1);
        due.is("19: two or three cannot be of one: no stone", x.handful(0, 101, 1, 1), 1);
        for (int j = 0; j < 4; j++) x.mend(1, j, 0);
        for (int what = 0; what < 2; what++) {
            for (int part = 0; part < 2; part++) due.is("19: all weights 0", x.handful(1, 3017, what, part), 1);
        }
        due.is("19: two of two", x.handful(0, 201, 0, 0), 0);
        // two or three of 60, a handful of 58: 2 1 by 60 59 and 0
        due.is("19: of sixty", x.handful(0, 6058, 0, 0), 1);
        due.is("19: of sixty", x.handful(0, 6058, 0, 1), 3540);
    }

    private static void heaps() {
        StoneInLentils x = new StoneInLentils();
        due.is("20: nobody", x.heaps(40, 999, 0), 0);
        due.is("20: nobody", x.heaps(40, 999, 2), -1);
        x.looker(410);
        // 4 heaps by 4: 16; 5 by 3: 15; 6 by 3: 18; 9 by 3: 27; 10 by 2; 14 by 2: 28; 19 by 1
        due.is("20: four", x.heaps(4, 999, 0), 16);
        due.is("20: one may be left", x.heaps(5, 999, 0), 16);
        due.is("20: one may be left", x.heaps(5, 999, 1), 40);
        due.is("20: one may be left", x.heaps(5, 999, 2), 4);
        due.is("20: six", x.heaps(6, 999, 0), 18);
        due.is("20: not for more", x.heaps(6, 59, 0), 16);
        due.is("20: just for so much", x.heaps(6, 60, 2), 6);
        due.is("20: the most", x.heaps(40, 999, 0), 28);
        due.is("20: the most", x.heaps(40, 999, 2), 14);
        x.looker(410);
        due.is("20: fewest for looker 0", x.heaps(1, 999, 2), 0);
        due.is("20: fewest for looker 0", x.heaps(1, 999, 3), 1);
        due.is("20: both", x.heaps(8, 999, 0), 32);
        x.looker(403);
        due.is("20: the least cost", x.heaps(1, 999, 4), 1);
        due.is("20: the least cost", x.heaps(1, 999, 1), 3);
        Due.tell(x, "k=1?h;n*12");
        // looker 1 sees more the thicker it lies; the others see by looks that were ahead: none
        due.is("20: by the law", x.heaps(10, 999, 0), 30);
        due.is("20: by the law", x.heaps(10, 999, 3), 10);
        due.is("20: by the law", x.heaps(9, 999, 0), 18);
        x.mend(0, 9, 9);
        due.is("20: above THICK's own limit", x.heaps(15, 999, 0), 180);
        x.looker(500);
        due.is("20: four lookers", x.heaps(1, 1, 0), -5);
        due.is("20: four lookers", x.heaps(1, 1, 5), -5);
        due.is("20: BAD ahead of STATE", x.heaps(1, 1, 6), -1);
        due.is("20: BAD ahead of STATE", x.heaps(0, 1, 0), -1);
    }

    private static void wrongOnes() {
        StoneInLentils x = new StoneInLentils();
        x.looker(605);
        long none = Due.NONE;
        for (int abc : new int[] {-1, Integer.MIN_VALUE, Integer.MAX_VALUE, 210000, 2100, 202100, 10002, 10201 + 1, 21, 200102}) {
            due.is("15: " + abc, x.lists(abc, 0, 0), none);
            due.is("16: " + abc, x.likeliest(abc), -1);
        }
        for (int wrong : new int[] {-1, 2, Integer.MAX_VALUE, Integer.MIN_VALUE}) {
            due.is("15: what", x.lists(10101, wrong, 0), none);
            due.is("15: part", x.lists(10101, 0, wrong), none);
            due.is("15: BAD ahead of NOT", x.lists(10100, 0, wrong), none);
            due.is("18: part", x.besides(201, 1, wrong), none);
            due.is("19: what", x.handful(0, 201, wrong, 0), none);
            due.is("19: part", x.handful(0, 201, 0, wrong), none);
        }
        for (int mf : new int[] {-1, 0, 1, 99, 102, 2021, 2100, 2101, Integer.MAX_VALUE, Integer.MIN_VALUE, -101}) {
            due.is("17: " + mf, x.seesFor(mf), -1);
            due.is("18: " + mf, x.besides(mf, 1, 0), none);
        }
        due.is("18: g 100", x.besides(201, 100, 0), none);
        due.is("18: g -1", x.besides(201, -1, 0), none);
        for (int nh : new int[] {-1, 0, 99, 102, 6061, 6100, Integer.MAX_VALUE, Integer.MIN_VALUE}) {
            due.is("19: " + nh, x.handful(0, nh, 0, 0), none);
        }
        due.is("19: bag", x.handful(4, 201, 0, 0), none);
        due.is("19: bag", x.handful(-1, 201, 0, 0), none);
        for (int n : new int[] {-1, 0, 41, Integer.MAX_VALUE}) due.is("20: n", x.heaps(n, 1, 0), -1);
        for (int m : new int[] {-1, 1000, Integer.MAX_VALUE}) due.is("20: m", x.heaps(1, m, 0), -1);
        for (int what : new int[] {-1, 3, Integer.MAX_VALUE, Integer.MIN_VALUE}) due.is("20: what", x.heaps(1, 1, what), -1);
    }
}
