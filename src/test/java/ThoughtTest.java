/** Promises 9 to 14: looks in thought. The numbers are worked out by hand in the comments. */
public final class ThoughtTest {
    private static final Due due = new Due("ThoughtTest");

    public static void main(String[] args) {
        left();
        mean();
        worth();
        next();
        plan();
        buy();
        wrongOnes();
        due.end();
    }

    private static StoneInLentils twoLookers() {
        StoneInLentils x = new StoneInLentils();
        x.looker(605);
        x.looker(302);
        return x;
    }

    private static void left() {
        StoneInLentils x = twoLookers();
        x.mend(0, 2, 0);
        x.mend(0, 3, 0);
        // 0 or 1 stone alike; looker 0 finds none by half: 1 to 1/2
        Due.bytes(x, 0, 0, 0);
        due.is("9: none left", x.left(0, 0, 0, 0), 2);
        due.is("9: none left", x.left(0, 0, 0, 1), 3);
        due.is("9: one left", x.left(0, 0, 1, 0), 1);
        due.is("9: one left", x.left(0, 0, 1, 1), 3);
        due.is("9: two left", x.left(0, 0, 2, 0), 0);
        due.is("9: two left", x.left(0, 0, 2, 1), 1);
        Due.bytes(x, 0, 0, 1);
        due.is("9: found, so none is left", x.left(0, 0, 0, 0), 1);
        Due.bytes(x, 0, 0, 2);
        due.is("9: two cannot be", x.left(0, 0, 0, 0), -2);
        due.is("9: two cannot be", x.left(0, 0, 0, 1), -2);
        Due.bytes(x, 0, 0, 0, 2, 0, 0, 0);
        due.is("9: no looker 2: the first two alone counts", x.left(0, 0, 0, 1), 3);
        Due.bytes(x, 0, 0, 0, 0, 4, 0, 0);
        due.is("9: found 4 is none", x.left(0, 0, 0, 1), 3);
        Due.bytes(x, 0, 0, 0, 0);
        due.is("9: half a two is none", x.left(0, 0, 0, 1), 3);
        Due.bytes(x, 0, 0, 0, 0, 0, 0, 0, 0, 0, 0, 0);
        // four looks count: 1 to 1/16
        due.is("9: four count", x.left(0, 0, 0, 0), 16);
        due.is("9: four count", x.left(0, 0, 0, 1), 17);
        Due.tell(x, "n=1?12;0");
        Due.bytes(x, 0, 0, 0, 0, 0);
        due.is("9: the second look has one ahead", x.left(0, 0, 0, 0), 1);
        due.is("9: the second look has one ahead", x.left(0, 0, 0, 1), 1);
        for (int j = 0; j < 4; j++) x.mend(3, j, 0);
        due.is("9: all weights 0", x.left(0, 3, 0, 0), 1);
        due.is("9: all weights 0", x.left(0, 3, 3, 0), 0);
    }

    private static void mean() {
        StoneInLentils x = twoLookers();
        Due.bytes(x, 0);
        due.is("10: 6 by 4", x.mean(0, 0, 0, 0), 3);
        due.is("10: 6 by 4", x.mean(0, 0, 0, 1), 2);
        due.is("10: sure", x.mean(0, 0, 1, 0), 1);
        due.is("10: sure", x.mean(0, 0, 1, 1), 4);
        due.is("10: likely", x.mean(0, 0, 2, 0), 1);
        due.is("10: likely", x.mean(0, 0, 2, 1), 1);
        // none found by half: 1, 1/2, 1/4, 1/8 of 4
        Due.bytes(x, 0, 0, 0);
        due.is("10: likely", x.mean(0, 0, 2, 0), 15);
        due.is("10: likely", x.mean(0, 0, 2, 1), 32);
        due.is("10: sure", x.mean(0, 0, 1, 0), 8);
        due.is("10: sure", x.mean(0, 0, 1, 1), 15);
        // 4 + 2 2 + 3 1 of 15
        due.is("10: mean", x.mean(0, 0, 0, 0), 11);
        due.is("10: mean", x.mean(0, 0, 0, 1), 15);
        Due.bytes(x, 0, 0, 3, 0, 1);
        due.is("10: cannot be", x.mean(0, 0, 0, 0), -2);
        due.is("10: cannot be", x.mean(0, 0, 1, 1), -2);
        due.is("10: likely is never NOT", x.mean(0, 0, 2, 0), 0);
        due.is("10: likely is never NOT", x.mean(0, 0, 2, 1), 1);
    }

    private static void worth() {
        StoneInLentils x = twoLookers();
        Due.bytes(x, 0);
        // 100 by 3/2 by half less 5; by a quarter less 2; by a third less 1
        due.is("11: looker 0", x.worth(0, 0, 0), 70);
        due.is("11: looker 0", x.worth(0, 0, 1), 1);
        due.is("11: looker 1", x.worth(0, 1, 0), 71);
        due.is("11: looker 1", x.worth(0, 1, 1), 2);
        due.is("11: washing", x.worth(0, 6, 0), 49);
        x.mend(2, 3, 0);
        // of bag 2 the mean is 1
        due.is("11: bag 2", x.worth(0, 20, 0), 45);
        x.mend(0, 10, 0);
        due.is("11: it costs more", x.worth(0, 20, 0), -5);
        due.is("11: it costs more", x.worth(0, 20, 1), 1);
        x.mend(0, 10, 1);
        due.is("11: it costs more", x.worth(0, 20, 0), -9);
        due.is("11: it costs more", x.worth(0, 20, 1), 2);
        Due.bytes(x, 0, 0, 3, 0, 3);
        due.is("11: cannot be", x.worth(0, 0, 0), -2);
        Due.tell(x, "n=4?12;0");
        Due.bytes(x, 0, 0, 0, 0, 0, 0, 0, 0, 0);
        due.is("11: four looks are ahead of it", x.worth(0, 0, 0), -7);
        due.is("11: four looks are ahead of it", x.worth(0, 0, 1), 2);
        biggest();
    }

    /** The greatest numbers that may come: nothing wraps. */
    private static void biggest() {
        StoneInLentils x = new StoneInLentils();
        x.looker(1299);
        for (int j = 0; j < 4; j++) x.mend(0, j, 9);
        x.mend(0, 10, 999);
        Due.tell(x, "n=4?12;1");
        Due.bytes(x, 0, 0, 0, 0, 0, 0, 0, 0, 0);
        java.math.BigInteger a = java.math.BigInteger.valueOf(11).pow(4);
        java.math.BigInteger b = java.math.BigInteger.valueOf(12).pow(4);
        java.math.BigInteger all = b.pow(3).add(a.multiply(b.pow(2))).add(a.pow(2).multiply(b)).add(a.pow(3));
        java.math.BigInteger many = a.multiply(b.pow(2)).add(a.pow(2).multiply(b).multiply(two(2))).add(a.pow(3).multiply(two(3)));
        java.math.BigInteger above = many.multiply(two(999)).subtract(all.multiply(two(99)));
        java.math.BigInteger like = above.gcd(all);
        due.is("11: the greatest", x.worth(0, 0, 0), above.divide(like).longValueExact());
        due.is("11: the greatest", x.worth(0, 0, 1), all.divide(like).longValueExact());
    }

    private static java.math.BigInteger two(int v) {
        return java.math.BigInteger.valueOf(v);
    }

    private static void next() {
        StoneInLentils x = twoLookers();
        Due.bytes(x, 0);
        due.is("12: looker 0", x.next(0, 0), 0);
        x.mend(0, 5, 3);
        x.mend(0, 6, 2);
        x.mend(0, 11, 2);
        due.is("12: of like ones the least", x.next(0, 0), 0);
        x.mend(0, 11, 3);
        due.is("12: washing costs 1 alone", x.next(0, 0), 6);
        x.mend(0, 6, 1);
        due.is("12: washing after lookers", x.next(0, 0), 0);
        x.mend(0, 10, 0);
        due.is("12: none is above 0", x.next(0, 0), -2);
        x.mend(0, 6, 0);
        due.is("12: 0 is not above 0", x.next(0, 0), -2);
        x.mend(0, 10, 1);
        due.is("12: above 0", x.next(0, 0), 0);
        Due.bytes(x, 0, 0, 3, 0, 3);
        due.is("12: cannot be", x.next(0, 0), -2);
        StoneInLentils y = new StoneInLentils();
        Due.bytes(y, 0);
        due.is("12: washing alone", y.next(0, 0), 6);
        y.mend(0, 11, 0);
        due.is("12: nobody", y.next(0, 0), -2);
    }

    private static void plan() {
        StoneInLentils x = new StoneInLentils();
        due.is("13: nobody", x.plan(0, 3, 0), 150);
        due.is("13: nobody", x.plan(0, 3, 2), -2);
        x.looker(605);
        due.is("13: no look", x.plan(0, 0, 0), 150);
        due.is("13: no look", x.plan(0, 0, 2), -2);
        due.is("13: one look: 5 and 75", x.plan(0, 1, 0), 80);
        due.is("13: one look", x.plan(0, 1, 1), 1);
        due.is("13: one look", x.plan(0, 1, 2), 0);
        x.mend(0, 1, 0);
        x.mend(0, 2, 0);
        // none or three: if 1 or 2 were found the rest is there, if 3 it is over, if none 8 to 1
        // ways by 16ths: none 9 (mean 3/9), one 3 (mean 2), two 3 (mean 1), three 1
        // behind none: 100/3 or 5 + 50/3 = 65/3; one: 5 + 100; two: 5 + 50; three: 0
        // 5 + (9 65/3 + 3 105 + 3 55) / 16 = 5 + 675/16
        due.is("13: by what was found", x.plan(0, 2, 0), 755);
        due.is("13: by what was found", x.plan(0, 2, 1), 16);
        x.mend(0, 10, 10);
        // of 10 a stone no look is worth 5 at first (15 to 5 + 7.5) but behind none it is not: 10/3
        // one: 20 or 15; two: 10 or 10: to stop
        // 5 + (9 10/3 + 3 15 + 3 10) / 16 = 5 + 105/16
        due.is("13: to stop by what was found", x.plan(0, 2, 0), 185);
        due.is("13: to stop by what was found", x.plan(0, 2, 1), 16);
        x.looker(605);
        due.is("13: of like ones the least", x.plan(0, 2, 2), 0);
        x.mend(0, 10, 0);
        x.mend(0, 6, 0);
        due.is("13: of like ones to stop", x.plan(0, 3, 2), -2);
    }

    private static void buy() {
        StoneInLentils x = new StoneInLentils();
        due.is("14: of like ones the least", x.buy(2), 0);
        x.mend(2, 4, 9);
        due.is("14: the cheapest", x.buy(2), 2);
        due.is("14: the cheapest", x.buy(0), 159);
        due.is("14: the cheapest", x.buy(1), 1);
        x.mend(3, 3, 0);
        x.mend(3, 4, 58);
        due.is("14: fewer stones: 100 and 58", x.buy(2), 3);
        due.is("14: fewer stones", x.buy(0), 158);
        x.mend(3, 4, 59);
        due.is("14: like ones", x.buy(2), 2);
        x.looker(600);
        // two looks of a half for nothing: a quarter is left
        due.is("14: two looks", x.buy(0), 93);
        due.is("14: two looks", x.buy(1), 2);
        x.mend(1, 0, 9);
        // 6 of 12: 50 by a quarter and 10
        due.is("14: many without", x.buy(2), 1);
        due.is("14: many without", x.buy(0), 45);
        due.is("14: many without", x.buy(1), 2);
    }

    private static void wrongOnes() {
        StoneInLentils x = twoLookers();
        long none = Due.NONE;
        Due.bytes(x, 0);
        x.row(1, 1, 4);
        x.body(0);
        x.keep(2, 0);
        for (int shelf : new int[] {-1, 6, 1, 2, 3}) {
            due.is("9: shelf " + shelf, x.left(shelf, 0, 0, 0), none);
            due.is("10: shelf " + shelf, x.mean(shelf, 0, 0, 0), none);
            due.is("11: shelf " + shelf, x.worth(shelf, 0, 0), none);
        }
        for (int wrong : new int[] {-1, 4, Integer.MIN_VALUE, Integer.MAX_VALUE}) {
            due.is("9: bag", x.left(0, wrong, 0, 0), none);
            due.is("9: j", x.left(0, 0, wrong, 0), none);
            due.is("9: part", x.left(0, 0, 0, wrong), none);
            due.is("10: bag", x.mean(0, wrong, 0, 0), none);
            due.is("10: what", x.mean(0, 0, wrong, 0), none);
            due.is("10: part", x.mean(0, 0, 0, wrong), none);
            due.is("11: part", x.worth(0, 0, wrong), none);
            due.is("12: bag", x.next(0, wrong), -1);
            due.is("12: BAD ahead of -11", x.next(3, wrong), -1);
            due.is("13: bag", x.plan(wrong, 0, 0), none);
            due.is("13: m", x.plan(0, wrong, 0), none);
            due.is("13: part", x.plan(0, 0, wrong), none);
            due.is("14: part", x.buy(wrong), none);
        }
        due.is("9: part 2", x.left(0, 0, 0, 2), none);
        due.is("10: what 3", x.mean(0, 0, 3, 0), none);
        due.is("11: part 2", x.worth(0, 0, 2), none);
        for (int by : new int[] {-1, -10, 2, 5, 7, 9, 40, 46, Integer.MIN_VALUE, Integer.MAX_VALUE}) {
            due.is("11: by " + by, x.worth(0, by, 0), none);
        }
        due.is("12: shelf -1", x.next(-1, 0), -1);
        due.is("12: shelf 6", x.next(6, 0), -1);
        due.is("12: nothing", x.next(3, 0), -11);
        due.is("12: shorts", x.next(1, 0), -12);
        due.is("12: a body", x.next(2, 0), -12);
        due.is("13: part 3", x.plan(0, 0, 3), none);
        due.is("14: part 3", x.buy(3), none);
    }
}
