/** The edges that the promises themselves name, call by call, in their order. */
public final class EdgesOfCallsTest {
    private static final Due due = new Due("EdgesOfCallsTest");
    private static final long NONE = Due.NONE;
    private static final int LEAST = Integer.MIN_VALUE, GREATEST = Integer.MAX_VALUE;

    public static void main(String[] args) {
        aboveAndBelow();
        newObject();
        looker();
        lookers();
        lookersOfNoBytes();
        mend();
        of();
        feed();
        law();
        lawThatIsNone();
        finds();
        left();
        mean();
        worth();
        next();
        plan();
        buy();
        lists();
        likeliest();
        seesFor();
        besides();
        handful();
        heaps();
        who();
        whoOfNoSuchK();
        drawn();
        open();
        look();
        eat();
        led();
        image();
        back();
        undo();
        redo();
        body();
        act();
        trace();
        keep();
        row();
        put();
        element();
        shift();
        shiftOfTheSame();
        taken();
        count();
        due.end();
    }

    /** Two LOOKERS; SHELVES: 0 a LOOK row, 1 ints, 2 a BODY of KIND 3, 3 nothing, 4 an empty row of bytes. */
    private static StoneInLentils some() {
        StoneInLentils x = new StoneInLentils();
        x.looker(605);
        x.looker(302);
        Due.bytes(x, 0, 0, 0);
        x.row(1, 2, 2);
        x.body(3);
        x.keep(2, 0);
        Due.bytes(x, 4);
        return x;
    }

    private static void aboveAndBelow() {
        due.sentence("(part 0 above, 1 below the line; Long.MIN_VALUE: BAD)");
        StoneInLentils x = some();
        StoneInLentils y = new StoneInLentils();
        // 10 and 1 by 3/2
        y.mend(0, 10, 1);
        long[] above = {x.left(4, 0, 0, 0), x.mean(4, 0, 0, 0), x.worth(4, 1, 0), y.plan(0, 0, 0), y.buy(0), x.lists(30302, 0, 0),
            x.besides(1205, 1, 0), x.handful(0, 201, 0, 0)};
        long[] below = {x.left(4, 0, 0, 1), x.mean(4, 0, 0, 1), x.worth(4, 1, 1), y.plan(0, 0, 1), y.buy(1), x.lists(30302, 0, 1),
            x.besides(1205, 1, 1), x.handful(0, 201, 0, 1)};
        int[] wantAbove = {1, 3, 71, 3, 23, 9, 12, 1};
        int[] wantBelow = {4, 2, 2, 2, 2, 2, 5, 2};
        for (int i = 0; i < 8; i++) {
            due.is("above " + i, above[i], wantAbove[i]);
            due.is("below " + i, below[i], wantBelow[i]);
        }
        for (int part : new int[] {-1, 2, 3, LEAST, GREATEST}) {
            due.is("left", x.left(4, 0, 0, part), NONE);
            due.is("mean", x.mean(4, 0, 0, part), NONE);
            due.is("worth", x.worth(4, 1, part), NONE);
            due.is("lists", x.lists(30302, 0, part), NONE);
            due.is("besides", x.besides(1205, 1, part), NONE);
            due.is("handful", x.handful(0, 201, 0, part), NONE);
            if (part != 2) due.is("plan", x.plan(0, 0, part), NONE);
            if (part != 2) due.is("buy", x.buy(part), NONE);
        }
    }

    private static void newObject() {
        due.sentence("Four bags, nobody to look.");
        StoneInLentils x = new StoneInLentils();
        for (int bag = -1; bag < 5; bag++) due.is("bag " + bag, x.of(bag, 4), bag < 0 || bag > 3 ? -1 : 10);
        for (int who = -1; who < 7; who++) due.is("looker " + who, x.of(who, 5), -1);
        for (int what = 0; what < 5; what++) due.is("count " + what, x.count(what), 0);
        for (int what = 0; what < 6; what++) due.is("led " + what, x.led(what), what < 5 ? 0 : -5);
    }

    private static void looker() {
        due.sentence("A LOOKER (sc: 100 SEES and COST): its number. BAD, FULL: 6.");
        StoneInLentils x = new StoneInLentils();
        for (int sc : new int[] {-1, -99, -100, 1300, 1399, 9999, LEAST, GREATEST}) due.is("sc " + sc, x.looker(sc), -1);
        int[] right = {0, 99, 100, 199, 1200, 1299};
        for (int i = 0; i < 6; i++) {
            due.is("its number", x.looker(right[i]), i);
            due.is("SEES", x.of(i, 5), right[i] / 100);
            due.is("COST", x.of(i, 6), right[i] % 100);
        }
        due.is("full", x.looker(0), -3);
        due.is("BAD ahead of FULL", x.looker(-1), -1);
        due.is("BAD ahead of FULL", x.looker(1300), -1);
        due.is("six", x.count(0), 6);
    }

    private static void lookers() {
        due.sentence("from place i on, n (1 .. 6) of them: how many came.");
        for (int n = 1; n <= 6; n++) {
            StoneInLentils x = new StoneInLentils();
            Due.bytes(x, 0, 1, 1, 2, 2, 3, 3, 4, 4, 5, 5, 6, 6);
            due.is("n " + n, x.lookers(0, 0, n), n);
            due.is("so many", x.count(0), n);
        }
        StoneInLentils x = some();
        for (int n : new int[] {0, 7, -1, LEAST, GREATEST}) {
            for (int shelf = 0; shelf < 5; shelf++) due.is("n " + n, x.lookers(shelf, 0, n), -1);
        }
        for (int shelf : new int[] {-1, 6, LEAST, GREATEST}) due.is("shelf " + shelf, x.lookers(shelf, 0, 1), -1);
        due.is("none came", x.count(0), 2);
    }

    private static void lookersOfNoBytes() {
        due.sentence("-12 (no ROW of bytes; a SHELF that holds nothing is missing).");
        StoneInLentils x = some();
        due.is("ints", x.lookers(1, 0, 1), -12);
        due.is("ints, from no place", x.lookers(1, 9, 1), -12);
        due.is("a body", x.lookers(2, 0, 1), -12);
        due.is("nothing", x.lookers(3, 0, 1), 0);
        due.is("nothing, from no place", x.lookers(3, -1, 6), 0);
        due.is("an empty row", x.lookers(4, 0, 1), 0);
        due.is("BAD ahead of -12", x.lookers(1, 0, 7), -1);
        due.is("BAD ahead of missing", x.lookers(3, 0, 7), -1);
        for (int i = 0; i < 4; i++) x.looker(0);
        due.is("-12 of a full one", x.lookers(1, 0, 1), -12);
    }

    private static void mend() {
        due.sentence("number 0 for these) becomes v: what it was. BAD.");
        StoneInLentils x = some();
        int[] first = {1, 1, 1, 1, 10, 6, 5, 0, 5, 1, 100, 4};
        int[] other = {9, 0, 9, 0, 99, 12, 99, 9, 0, 9, 999, 12};
        for (int what = 0; what < 12; what++) {
            due.is("what it was", x.mend(0, what, other[what]), first[what]);
            due.is("what it was", x.mend(0, what, first[what]), other[what]);
            due.is("the same", x.mend(0, what, first[what]), first[what]);
            int numbers = what < 5 ? 4 : what < 7 ? 2 : 1;
            for (int number : new int[] {-1, numbers, LEAST, GREATEST}) due.is("number " + number, x.mend(number, what, first[what]), -1);
            due.is("the last", x.mend(numbers - 1, what, first[what]), what == 5 && numbers == 2 ? 3 : what == 6 ? 2 : first[what]);
        }
        for (int what : new int[] {-1, 12, LEAST, GREATEST}) due.is("what " + what, x.mend(0, what, 1), -1);
    }

    private static void of() {
        due.sentence("As of mend() (0 to 11). BAD.");
        StoneInLentils x = some();
        for (int what = 0; what < 12; what++) {
            int numbers = what < 5 ? 4 : what < 7 ? 2 : 1;
            for (int number = 0; number < numbers; number++) due.holds("of " + number + " " + what, x.of(number, what) >= 0);
            for (int number : new int[] {-1, numbers, LEAST, GREATEST}) due.is("number " + number, x.of(number, what), -1);
        }
        for (int what : new int[] {-1, 12, LEAST, GREATEST}) due.is("what " + what, x.of(0, what), -1);
    }

    private static void feed() {
        due.sentence("A byte (0 .. 255) comes to THE TAPE: how many it has. BAD, FULL (120).");
        StoneInLentils x = new StoneInLentils();
        for (int letter : new int[] {-1, 256, LEAST, GREATEST}) due.is("letter " + letter, x.feed(letter), -1);
        due.is("none yet", x.count(1), 0);
        due.is("the least", x.feed(0), 1);
        due.is("the greatest", x.feed(255), 2);
        for (int i = 3; i <= 120; i++) due.is("feed", x.feed('s'), i);
        due.is("full", x.feed('s'), -3);
        due.is("full", x.feed(0), -3);
        for (int letter : new int[] {-1, 256, LEAST, GREATEST}) due.is("BAD ahead of FULL", x.feed(letter), -1);
        due.is("so many", x.count(1), 120);
        x.law();
        due.is("empty again", x.feed('s'), 1);
    }

    private static void law() {
        due.sentence("THE TAPE becomes THE LAW: 1;");
        StoneInLentils x = some();
        due.is("one", Due.tell(x, "3"), 1);
        due.is("by it", x.finds(0, 0), 3);
        due.is("another", Due.tell(x, "4"), 1);
        due.is("by the later", x.finds(0, 0), 4);
        due.is("empty then", x.count(1), 0);
        x.feed('1');
        due.is("a tape alone is none", x.finds(0, 0), 4);
        x.feed('1');
        x.law();
        due.is("all of the tape", x.finds(0, 0), 11);
    }

    private static void lawThatIsNone() {
        due.sentence("-100 less its FAULT; THE TAPE is empty then.");
        StoneInLentils x = some();
        due.is("empty", x.law(), -100);
        due.is("its first", Due.tell(x, "+"), -100);
        due.is("its second", Due.tell(x, "1)"), -101);
        due.is("its end", Due.tell(x, "1+"), -102);
        due.is("empty then", x.count(1), 0);
        due.is("without a text still", x.finds(0, 0), 6);
        due.is("a text behind it", Due.tell(x, "2"), 1);
        due.is("a fault behind that", Due.tell(x, "9?"), -102);
        due.is("the law stays", x.finds(0, 0), 2);
    }

    private static void finds() {
        due.sentence("In how many of twelve a LOOKER finds, n looks ahead (0 .. 9). BAD.");
        StoneInLentils x = some();
        Due.tell(x, "n+k");
        for (int n = 0; n < 10; n++) {
            due.is("0", x.finds(0, n), n);
            due.is("1", x.finds(1, n), n + 1);
        }
        for (int n : new int[] {-1, 10, LEAST, GREATEST}) due.is("n " + n, x.finds(0, n), -1);
        for (int who : new int[] {-1, 2, 6, LEAST, GREATEST}) due.is("looker " + who, x.finds(who, 0), -1);
    }

    private static void left() {
        due.sentence("LEFT: j (0 .. 3). Long.MIN_VALUE, too: no ROW of bytes; NOT.");
        StoneInLentils x = some();
        for (int j = 0; j < 4; j++) due.holds("j " + j, x.left(0, 0, j, 0) > 0);
        for (int wrong : new int[] {-1, 4, LEAST, GREATEST}) {
            due.is("j", x.left(0, 0, wrong, 0), NONE);
            due.is("bag", x.left(0, wrong, 0, 0), NONE);
            due.is("part", x.left(0, 0, 0, wrong), NONE);
        }
        due.is("part 2", x.left(0, 0, 0, 2), NONE);
        for (int shelf : new int[] {-1, 1, 2, 3, 6}) due.is("shelf " + shelf, x.left(shelf, 0, 0, 0), NONE);
        due.is("an empty row", x.left(4, 0, 0, 1), 4);
        x.mend(0, 0, 0);
        x.mend(0, 5, 12);
        due.is("it cannot be", x.left(0, 0, 0, 0), -2);
        due.is("BAD ahead of NOT", x.left(0, 0, 4, 0), NONE);
    }

    private static void mean() {
        due.sentence("MEAN LEFT (what 0), SURE (1), LIKELY (2; never NOT). Long.MIN_VALUE likewise; NOT.");
        StoneInLentils x = some();
        for (int wrong : new int[] {-1, 4, LEAST, GREATEST}) {
            due.is("what", x.mean(0, 0, wrong, 0), NONE);
            due.is("bag", x.mean(0, wrong, 0, 0), NONE);
            due.is("part", x.mean(0, 0, 0, wrong), NONE);
        }
        due.is("what 3", x.mean(0, 0, 3, 0), NONE);
        due.is("part 2", x.mean(0, 0, 2, 2), NONE);
        for (int shelf : new int[] {-1, 1, 2, 3, 6}) {
            for (int what = 0; what < 3; what++) due.is("shelf " + shelf, x.mean(shelf, 0, what, 0), NONE);
        }
        x.mend(0, 0, 0);
        x.mend(0, 5, 12);
        for (int part = 0; part < 2; part++) {
            due.is("mean left", x.mean(0, 0, 0, part), -2);
            due.is("sure", x.mean(0, 0, 1, part), -2);
            due.is("likely is never NOT", x.mean(0, 0, 2, part), part);
        }
    }

    private static void worth() {
        due.sentence("WORTH (by: 10 times the BAG, and the LOOKER; 6 WASHING). Long.MIN_VALUE likewise; NOT.");
        StoneInLentils x = some();
        for (int bag = 0; bag < 4; bag++) {
            for (int who = 0; who < 10; who++) {
                boolean is = who < 2 || who == 6;
                due.is("by " + bag + who, x.worth(4, 10 * bag + who, 1) > 0 ? 1 : 0, is ? 1 : 0);
                if (!is) due.is("by " + bag + who, x.worth(4, 10 * bag + who, 0), NONE);
            }
        }
        for (int by : new int[] {-1, -10, 40, 41, 46, 100, LEAST, GREATEST}) due.is("by " + by, x.worth(4, by, 0), NONE);
        for (int part : new int[] {-1, 2, LEAST, GREATEST}) due.is("part", x.worth(4, 0, part), NONE);
        for (int shelf : new int[] {-1, 1, 2, 3, 6}) due.is("shelf " + shelf, x.worth(shelf, 6, 0), NONE);
        x.mend(0, 0, 0);
        x.mend(0, 5, 12);
        for (int by : new int[] {0, 1, 6}) due.is("it cannot be", x.worth(0, by, 0), -2);
        due.is("BAD ahead of NOT", x.worth(0, 2, 0), NONE);
        due.is("of another bag it can", x.worth(0, 10, 0), -5);
        bagsOfWorth();
    }

    /** Of each BAG by LOOKER 0 who finds all, LOOKER 1 by a quarter, and washing by a third. */
    private static void bagsOfWorth() {
        StoneInLentils x = some();
        x.mend(0, 5, 12);
        Due.weights(x, 0, 0, 1, 0, 0);
        Due.weights(x, 1, 0, 0, 1, 0);
        Due.weights(x, 2, 1, 0, 0, 0);
        Due.weights(x, 3, 0, 0, 0, 1);
        int[] stones = {1, 2, 0, 3};
        int[] washed = {97, 197, -1, 99};
        for (int bag = 0; bag < 4; bag++) {
            due.is("of bag " + bag + " by all", x.worth(4, 10 * bag, 0), 100 * stones[bag] - 5);
            due.is("of bag " + bag + " by a quarter", x.worth(4, 10 * bag + 1, 0), 25 * stones[bag] - 2);
            due.is("of bag " + bag + " by washing", x.worth(4, 10 * bag + 6, 0), washed[bag]);
        }
    }

    private static void next() {
        due.sentence("NEXT. BAD, -11, -12 (no ROW of bytes); NOT.");
        StoneInLentils x = some();
        due.is("somebody", x.next(0, 0), 0);
        for (int wrong : new int[] {-1, 4, LEAST, GREATEST}) {
            for (int shelf = 0; shelf < 4; shelf++) due.is("BAD ahead of all", x.next(shelf, wrong), -1);
        }
        for (int shelf : new int[] {-1, 6, LEAST, GREATEST}) due.is("shelf", x.next(shelf, 0), -1);
        due.is("ints", x.next(1, 0), -12);
        due.is("a body", x.next(2, 0), -12);
        due.is("nothing", x.next(3, 0), -11);
        x.mend(0, 10, 0);
        due.is("none", x.next(0, 0), -2);
    }

    private static void plan() {
        due.sentence("PLAN: the cost (part 0, 1), who first (2; NOT).");
        StoneInLentils x = some();
        for (int wrong : new int[] {-1, 4, LEAST, GREATEST}) {
            due.is("bag", x.plan(wrong, 1, 0), NONE);
            due.is("m", x.plan(0, wrong, 0), NONE);
            due.is("part", x.plan(0, 1, wrong), NONE);
        }
        due.is("part 3", x.plan(0, 1, 3), NONE);
        due.is("cost: 5 and 75", x.plan(0, 1, 0), 80);
        due.is("cost", x.plan(0, 1, 1), 1);
        due.is("who", x.plan(0, 1, 2), 0);
        due.is("nobody", x.plan(0, 0, 2), -2);
        due.is("m 3", x.plan(3, 3, 2), 0);
    }

    private static void buy() {
        due.sentence("BUY: that (part 0, 1), which (2).");
        StoneInLentils x = new StoneInLentils();
        due.is("that", x.buy(0), 160);
        due.is("that", x.buy(1), 1);
        due.is("which", x.buy(2), 0);
        for (int part : new int[] {-1, 3, LEAST, GREATEST}) due.is("part", x.buy(part), NONE);
    }

    private static void lists() {
        due.sentence("TWO LISTS (abc: 10000 a, 100 b, and c): how many there are (what 0), none found (1). NOT.");
        StoneInLentils x = new StoneInLentils();
        due.is("15 by 2", x.lists(50302, 0, 0), 15);
        due.is("15 by 2", x.lists(50302, 0, 1), 2);
        due.is("less 6", x.lists(50302, 1, 0), 3);
        for (int wrong : new int[] {-1, 2, LEAST, GREATEST}) {
            due.is("what", x.lists(50302, wrong, 0), NONE);
            due.is("part", x.lists(50302, 0, wrong), NONE);
            due.is("what ahead of NOT", x.lists(50300, wrong, 0), NONE);
        }
        for (int abc : new int[] {-1, 210101, 12101, 10102, 212101, LEAST, GREATEST}) due.is("abc", x.lists(abc, 0, 0), NONE);
        due.is("c is 0", x.lists(50300, 0, 0), -2);
    }

    private static void likeliest() {
        due.sentence("LIKELIEST. BAD.");
        StoneInLentils x = new StoneInLentils();
        for (int abc : new int[] {-1, 210000, 210101, 2100, 12101, 10102, 1, LEAST, GREATEST}) due.is("abc " + abc, x.likeliest(abc), -1);
        due.is("no stone", x.likeliest(0), 0);
        due.is("all", x.likeliest(202020), 20);
    }

    private static void seesFor() {
        due.sentence("SEES FOR (mf: 100 m and f). BAD.");
        StoneInLentils x = new StoneInLentils();
        for (int mf : new int[] {-1, 0, 99, 102, 199, 2021, 2099, 2100, LEAST, GREATEST}) due.is("mf " + mf, x.seesFor(mf), -1);
        due.is("least", x.seesFor(100), 0);
        due.is("greatest", x.seesFor(2020), 12);
    }

    private static void besides() {
        due.sentence("How many there were besides, g (0 .. 99). NOT.");
        StoneInLentils x = new StoneInLentils();
        due.is("g 0", x.besides(201, 0, 0), 0);
        due.is("g 99", x.besides(201, 99, 0), 198);
        for (int g : new int[] {-1, 100, LEAST, GREATEST}) due.is("g", x.besides(201, g, 0), NONE);
        for (int part : new int[] {-1, 2, LEAST, GREATEST}) due.is("part", x.besides(201, 1, part), NONE);
        for (int mf : new int[] {-1, 0, 102, 2100}) due.is("mf", x.besides(mf, 1, 0), NONE);
        due.is("NOT", x.besides(200, 1, 0), -2);
    }

    private static void handful() {
        due.sentence("HANDFUL (nh: 100 N and h): none in it (what 0), none in the BAG then (1).");
        StoneInLentils x = new StoneInLentils();
        due.is("none in it", x.handful(3, 201, 0, 1), 2);
        due.is("none then", x.handful(3, 201, 1, 1), 3);
        for (int wrong : new int[] {-1, 4, LEAST, GREATEST}) {
            due.is("bag", x.handful(wrong, 201, 0, 0), NONE);
            due.is("what", x.handful(0, 201, wrong, 0), NONE);
            due.is("part", x.handful(0, 201, 0, wrong), NONE);
        }
        due.is("what 2", x.handful(0, 201, 2, 0), NONE);
        due.is("part 2", x.handful(0, 201, 0, 2), NONE);
        for (int nh : new int[] {-1, 0, 60, 102, 203, 6061, 6100, 10000, LEAST, GREATEST}) due.is("nh " + nh, x.handful(0, nh, 0, 0), NONE);
    }

    private static void heaps() {
        due.sentence("HEAPS: twelfths (what 0), cost (1), heaps of a LOOKER (2 and its number). BAD; STATE.");
        StoneInLentils x = some();
        int[] want = {6, 5, 1, 0};
        for (int what = 0; what < 4; what++) due.is("what " + what, x.heaps(1, 9, what), want[what]);
        for (int what : new int[] {-1, 4, 5, LEAST, GREATEST}) due.is("what " + what, x.heaps(1, 9, what), -1);
        for (int n : new int[] {-1, 0, 41, LEAST, GREATEST}) due.is("n " + n, x.heaps(n, 9, 0), -1);
        for (int m : new int[] {-1, 1000, LEAST, GREATEST}) due.is("m " + m, x.heaps(1, m, 0), -1);
        x.looker(0);
        due.is("three", x.heaps(1, 9, 4), 0);
        x.looker(0);
        for (int what = 0; what < 6; what++) due.is("four", x.heaps(1, 9, what), -5);
        due.is("BAD ahead of STATE", x.heaps(1, 9, 6), -1);
        due.is("BAD ahead of STATE", x.heaps(41, 9, 0), -1);
        due.is("BAD ahead of STATE", x.heaps(1, 1000, 0), -1);
    }

    private static void who() {
        due.sentence("WHO: how many (what 0), SURE BY of the k-th (1), MOST of the k-th (2; NOT).");
        StoneInLentils x = some();
        due.is("how many", x.who(0, 0, 0, 0), 4);
        due.is("sure by", x.who(0, 0, 1, 0), 0);
        due.is("most", x.who(0, 0, 2, 1), 1);
        for (int what : new int[] {-1, 3, LEAST, GREATEST}) due.is("what", x.who(0, 0, what, 0), -1);
        for (int bag : new int[] {-1, 4, LEAST, GREATEST}) due.is("bag", x.who(0, bag, 0, 0), -1);
        for (int what = 0; what < 3; what++) {
            due.is("ints", x.who(1, 0, what, 0), -12);
            due.is("a body", x.who(2, 0, what, 0), -12);
            due.is("nothing", x.who(3, 0, what, 0), -11);
        }
        Due.bytes(x, 0, 3, 3);
        due.is("none", x.who(0, 0, 0, 0), 0);
        due.is("none", x.who(0, 0, 2, 0), -2);
    }

    private static void whoOfNoSuchK() {
        due.sentence("BAD (no such k, too), -11, -12 (no ROW of bytes).");
        for (int told = 0; told <= 6; told++) {
            StoneInLentils x = some();
            Due.bytes(x, 0, new int[told]);
            for (int k = -1; k < 7; k++) {
                boolean is = k >= 0 && k < Math.min(4, told);
                due.is("sure by, k " + k + " of " + told, x.who(0, 0, 1, k), is ? 0 : -1);
                due.is("most, k " + k + " of " + told, x.who(0, 0, 2, k), is ? 1 : -1);
            }
            due.is("the least k", x.who(0, 0, 2, LEAST), -1);
            due.is("the greatest k", x.who(0, 0, 2, GREATEST), -1);
        }
        StoneInLentils x = some();
        for (int shelf = 1; shelf < 4; shelf++) due.is("BAD ahead of -11, -12", x.who(shelf, 0, 2, 4), -1);
        due.is("an empty row", x.who(4, 0, 2, 0), -1);
    }

    private static void drawn() {
        due.sentence("DRAWN (bn: 100 times the BAG, and n): STONES left (what 0), costs (1). BAD, -11, -12.");
        StoneInLentils x = some();
        x.mend(0, 5, 12);
        due.is("left", x.drawn(0, 1, 330, 0), 0);
        due.is("costs", x.drawn(0, 1, 330, 1), 150);
        for (int what : new int[] {-1, 2, LEAST, GREATEST}) due.is("what", x.drawn(0, 1, 1, what), -1);
        for (int bn : new int[] {-1, 0, 31, 100, 131, 300, 331, 401, LEAST, GREATEST}) {
            for (int shelf = 0; shelf < 4; shelf++) due.is("BAD ahead of all", x.drawn(shelf, 1, bn, 0), -1);
        }
        for (int shelf : new int[] {-1, 6, LEAST, GREATEST}) due.is("shelf", x.drawn(shelf, 1, 1, 0), -1);
        due.is("ints", x.drawn(1, 1, 1, 0), -12);
        due.is("a body", x.drawn(2, 1, 1, 0), -12);
        due.is("nothing", x.drawn(3, 1, 1, 0), -11);
    }

    private static void open() {
        due.sentence("OPEN: the BAG. BAD; STATE: one is open.");
        for (int bag = 0; bag < 4; bag++) {
            StoneInLentils x = some();
            for (int wrong : new int[] {-1, 4, LEAST, GREATEST}) due.is("bag", x.open(wrong, 0), -1);
            due.is("none is open", x.led(5), -5);
            due.is("the bag", x.open(bag, LEAST), bag);
            due.is("one is open", x.open(bag, 0), -5);
            due.is("BAD ahead of STATE", x.open(4, 0), -1);
        }
    }

    private static void look() {
        due.sentence("(by draws that go on from those of OPEN). BAD; STATE: none is open.");
        StoneInLentils x = some();
        due.is("none is open", x.look(0), -5);
        due.is("BAD ahead of STATE", x.look(2), -1);
        x.open(0, 1);
        for (int who : new int[] {-1, 2, 6, LEAST, GREATEST}) due.is("looker", x.look(who), -1);
        due.is("no look yet", x.led(1), 0);
        x.drawn(0, 99, 30, 0);
        // seed 1 gave 2 stones; then 2524885223, 662824084, 3295386429 without 8 bits: by 12 there are 8, 0, 11 over
        due.is("the second of two", x.look(0), 1);
        due.is("not the one that is left", x.look(0), 0);
        due.is("one is left", x.eat(), 1);
    }

    private static void eat() {
        due.sentence("EAT: how many were left. STATE likewise.");
        StoneInLentils x = some();
        due.is("none is open", x.eat(), -5);
        x.open(0, 1);
        due.is("two", x.eat(), 2);
        due.is("none is open", x.eat(), -5);
        due.is("one was eaten", x.led(0), 1);
    }

    private static void led() {
        due.sentence("looks of the BAG that is open (5; -5: none is). BAD.");
        StoneInLentils x = some();
        due.is("none is", x.led(5), -5);
        x.open(0, 1);
        due.is("no look", x.led(5), 0);
        x.look(0);
        due.is("one", x.led(5), 1);
        for (int what : new int[] {-1, 6, LEAST, GREATEST}) due.is("what", x.led(what), -1);
        x.eat();
        due.is("none is", x.led(5), -5);
    }

    private static void image() {
        due.sentence("AN IMAGE is kept: BAGS eaten.");
        StoneInLentils x = some();
        for (int eaten = 0; eaten < 3; eaten++) {
            due.is("eaten", x.image(), eaten);
            x.open(0, 1);
            due.is("while one is open", x.image(), eaten);
            x.eat();
        }
    }

    private static void back() {
        due.sentence("It is laid back: BAGS eaten. STATE: there is none.");
        StoneInLentils x = some();
        due.is("there is none", x.back(), -5);
        x.open(0, 1);
        x.eat();
        x.image();
        x.open(0, 1);
        x.eat();
        due.is("one", x.back(), 1);
        due.is("one", x.led(0), 1);
        due.is("once more", x.back(), 1);
    }

    private static void undo() {
        due.sentence("UNDONE: how many may still be. STATE: none.");
        StoneInLentils x = some();
        due.is("none", x.undo(), -5);
        x.mend(0, 10, 1);
        x.mend(0, 10, 2);
        due.is("one", x.undo(), 1);
        due.is("none more", x.undo(), 0);
        due.is("none", x.undo(), -5);
        due.is("none", x.count(2), 0);
    }

    private static void redo() {
        due.sentence("DONE AGAIN: how many may still be. STATE: none.");
        StoneInLentils x = some();
        due.is("none", x.redo(), -5);
        x.mend(0, 10, 1);
        due.is("none was undone", x.redo(), -5);
        x.mend(0, 10, 2);
        x.undo();
        x.undo();
        due.is("one", x.redo(), 1);
        due.is("none more", x.redo(), 0);
        due.is("none", x.redo(), -5);
        due.is("two", x.count(2), 2);
    }

    private static void body() {
        due.sentence("A BODY of a KIND (0 .. 7) is kept: its number. BAD, FULL.");
        StoneInLentils x = new StoneInLentils();
        for (int kind : new int[] {-1, 8, LEAST, GREATEST}) due.is("kind", x.body(kind), -1);
        for (int i = 0; i < 50; i++) due.is("its number", x.body(i % 8), i);
        for (int kind = 0; kind < 8; kind++) due.is("full", x.body(kind), -3);
        for (int kind : new int[] {-1, 8, LEAST, GREATEST}) due.is("BAD ahead of FULL", x.body(kind), -1);
    }

    private static void act() {
        due.sentence("An ACT (0 .. 3) of a BODY with x. 0, and no TRACE then: no such BODY, ACT.");
        StoneInLentils x = some();
        int[] want = {7, -16, 21, -19};
        for (int act = 0; act < 4; act++) due.is("act " + act, x.act(0, act, 7), want[act]);
        for (int wrong : new int[] {-1, 4, LEAST, GREATEST}) {
            x.act(0, 0, 7);
            due.is("no such act", x.act(0, wrong, 7), 0);
            due.is("no trace", x.trace(0), -1);
            x.act(0, 0, 7);
            due.is("no such body", x.act(wrong, 0, 7), 0);
            due.is("no trace", x.count(4), 0);
        }
        due.is("number 1 is not there", x.act(1, 0, 7), 0);
        due.is("no body at all", new StoneInLentils().act(0, 0, 7), 0);
    }

    private static void trace() {
        due.sentence("THE TRACE's i-th body. BAD.");
        StoneInLentils x = some();
        due.is("none ran yet", x.trace(0), -1);
        x.act(0, 1, 7);
        int[] want = {-1, 41, 30, 10, 1, -1};
        for (int i = 0; i < 6; i++) due.is("trace " + (i - 1), x.trace(i - 1), want[i]);
        for (int i : new int[] {23, 24, 25, LEAST, GREATEST}) due.is("trace " + i, x.trace(i), -1);
    }

    private static void keep() {
        due.sentence("A SHELF holds nothing (body -1), or a BODY: 1. BAD.");
        StoneInLentils x = some();
        due.is("a body", x.keep(5, 0), 1);
        due.is("it", x.taken(5, 0), 3);
        for (int body : new int[] {-2, 1, 50, LEAST, GREATEST}) due.is("body " + body, x.keep(5, body), -1);
        due.is("it stays", x.taken(5, 0), 3);
        due.is("nothing", x.keep(5, -1), 1);
        due.is("nothing again", x.keep(5, -1), 1);
        due.is("nothing", x.taken(5, 0), -11);
        for (int shelf : new int[] {-1, 6, LEAST, GREATEST}) due.is("shelf", x.keep(shelf, -1), -1);
    }

    private static void row() {
        due.sentence("A SHELF holds a ROW: 1. BAD (sort, n above 60); -14.");
        StoneInLentils x = some();
        for (int n : new int[] {0, 1, 59, 60}) due.is("n " + n, x.row(0, 3, n), 1);
        for (int n : new int[] {61, 62, GREATEST}) due.is("n " + n, x.row(0, 3, n), -1);
        for (int n : new int[] {-1, -2, LEAST}) due.is("n " + n, x.row(0, 3, n), -14);
        for (int sort : new int[] {-1, 5, LEAST, GREATEST}) {
            due.is("sort", x.row(0, sort, 1), -1);
            due.is("BAD ahead of -14", x.row(0, sort, -1), -1);
        }
        for (int shelf : new int[] {-1, 6, LEAST, GREATEST}) due.is("BAD ahead of -14", x.row(shelf, 0, -1), -1);
        due.is("in place of a body", x.row(2, 0, 1), 1);
        due.is("in place of a body", x.taken(2, 0), -12);
    }

    private static void put() {
        due.sentence("Element i of a ROW becomes v: 1. BAD, -11, -12, -13.");
        StoneInLentils x = some();
        due.is("first", x.put(1, 0, 5), 1);
        due.is("last", x.put(1, 1, 6), 1);
        due.is("first", x.element(1, 0), 5);
        due.is("last", x.element(1, 1), 6);
        for (int i : new int[] {-1, 2, LEAST, GREATEST}) {
            due.is("-13", x.put(1, i, 1), -13);
            due.is("-12 ahead of -13", x.put(2, i, 1), -12);
            due.is("-11 ahead of -13", x.put(3, i, 1), -11);
            due.is("an empty row", x.put(4, i, 1), -13);
            due.is("BAD ahead of all", x.put(6, i, 1), -1);
        }
    }

    private static void element() {
        due.sentence("Element i of a ROW; Long.MIN_VALUE: BAD, -11 to -13.");
        StoneInLentils x = some();
        due.is("first", x.element(0, 0), 0);
        due.is("last", x.element(0, 1), 0);
        for (int i : new int[] {-1, 2, LEAST, GREATEST}) due.is("i", x.element(0, i), NONE);
        for (int shelf : new int[] {-1, 2, 3, 4, 6, LEAST, GREATEST}) due.is("shelf", x.element(shelf, 0), NONE);
    }

    private static void shift() {
        due.sentence("BAD, -11 (either), -12 (no ROWS, or of unlike sorts), -13.");
        StoneInLentils x = some();
        Due.bytes(x, 5, 7, 8, 9);
        due.is("all", x.shift(5, 0, 5, 0, 3), 3);
        due.is("two", x.shift(5, 1, 0, 0, 2), 2);
        due.is("came", x.element(0, 0), 8);
        due.is("came", x.element(0, 1), 9);
        due.is("too many", x.shift(5, 0, 0, 0, 3), -13);
        due.is("to an empty one", x.shift(5, 0, 4, 0, 1), -13);
        due.is("none to an empty one", x.shift(5, 3, 4, 0, 0), 0);
        due.is("unlike", x.shift(5, 0, 1, 0, 1), -12);
        due.is("unlike, none of them", x.shift(5, 0, 1, 0, 0), -12);
        due.is("to a body", x.shift(5, 0, 2, 0, 1), -12);
        due.is("from a body", x.shift(2, 0, 5, 0, 1), -12);
        due.is("to nothing", x.shift(5, 0, 3, 0, 1), -11);
        due.is("from nothing", x.shift(3, 0, 5, 0, 1), -11);
        due.is("-11 ahead of -12", x.shift(2, 0, 3, 0, 1), -11);
        due.is("-12 ahead of -13", x.shift(5, 9, 1, 9, 9), -12);
        for (int shelf : new int[] {-1, 6, LEAST, GREATEST}) {
            due.is("BAD", x.shift(shelf, 0, 3, 0, 1), -1);
            due.is("BAD", x.shift(3, 0, shelf, 0, 1), -1);
        }
    }

    private static void shiftOfTheSame() {
        due.sentence("come to another one (or the same) from j on, as they all were before: n.");
        for (int i = 0; i <= 5; i++) {
            for (int j = 0; j <= 5; j++) {
                int n = 5 - Math.max(i, j);
                StoneInLentils x = new StoneInLentils();
                Due.bytes(x, 0, 1, 2, 3, 4, 5);
                due.is("n", x.shift(0, i, 0, j, n), n);
                for (int at = 0; at < 5; at++) {
                    boolean came = at >= j && at < j + n;
                    due.is("from " + i + " to " + j, x.element(0, at), came ? at - j + i + 1 : at + 1);
                }
                due.is("one more", x.shift(0, i, 0, j, n + 1), -13);
            }
        }
    }

    private static void taken() {
        due.sentence("taken for a BODY of KIND k (0 .. 7), or under it: its KIND. BAD, -11, -12.");
        StoneInLentils x = some();
        int[] want = {-1, 3, -12, 3, 3, -12, -12, -12, -12, -1};
        for (int k = -1; k < 9; k++) due.is("k " + k, x.taken(2, k), want[k + 1]);
        for (int k : new int[] {LEAST, GREATEST}) due.is("k", x.taken(2, k), -1);
        for (int k = 0; k < 8; k++) {
            due.is("a row", x.taken(0, k), -12);
            due.is("nothing", x.taken(3, k), -11);
        }
        for (int shelf = 0; shelf < 4; shelf++) due.is("BAD ahead of all", x.taken(shelf, 8), -1);
    }

    private static void count() {
        due.sentence("How many: 0 LOOKERS, 1 bytes on THE TAPE, 2 changes that may be UNDONE, 3 BODIES, "
            + "4 bodies that ran in the latest act(). BAD.");
        StoneInLentils x = some();
        int[] want = {-1, 2, 0, 0, 1, 0, -1};
        for (int what = -1; what < 6; what++) due.is("count " + what, x.count(what), want[what + 1]);
        for (int what : new int[] {LEAST, GREATEST}) due.is("what", x.count(what), -1);
        x.feed('s');
        x.mend(0, 10, 5);
        x.mend(0, 10, 6);
        x.undo();
        x.act(0, 1, 1);
        int[] then = {2, 1, 1, 1, 4};
        for (int what = 0; what < 5; what++) due.is("count " + what, x.count(what), then[what]);
    }
}
