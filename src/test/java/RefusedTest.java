import java.util.ArrayList;
import java.util.List;
import java.util.function.Supplier;
import java.util.function.ToLongFunction;

/**
 * "Answers, of several the one named first" and "What is answered so changes nothing": each refusal of each
 * call, on an object made anew; then all that can be asked of the object must be as without that call.
 */
public final class RefusedTest {
    private static final Due due = new Due("RefusedTest");
    private static final long NONE = Due.NONE;
    private static final int LEAST = Integer.MIN_VALUE, GREATEST = Integer.MAX_VALUE;

    private static String where = "";
    private static Supplier<StoneInLentils> made;
    private static List<Long> untouched;

    public static void main(String[] args) {
        in("new", StoneInLentils::new);
        refusedByANewOne();
        in("busy", RefusedTest::busy);
        badOnesOfBusy();
        notOnesOfBusy();
        shelvesOfBusy();
        statesOfBusy();
        bothAtOnceOfBusy();
        questionsOfBusy();
        in("full", RefusedTest::full);
        refusedByAFullOne();
        actThatIsNone();
        due.end();
    }

    private static void in(String name, Supplier<StoneInLentils> maker) {
        where = name;
        made = maker;
        untouched = allAnswers(maker.get());
    }

    private static void refused(String call, long answer, ToLongFunction<StoneInLentils> asks) {
        StoneInLentils x = made.get();
        due.is(where + ": " + call, asks.applyAsLong(x), answer);
        List<Long> then = allAnswers(x);
        int same = 0;
        while (same < then.size() && then.get(same).equals(untouched.get(same))) same++;
        due.is(where + ": behind " + call + " answers are as without it", same, untouched.size());
    }

    /** Two LOOKERS, a law and a tape, changes done and undone, a BAG open, an image, BODIES, all SHELVES. */
    private static StoneInLentils busy() {
        StoneInLentils x = new StoneInLentils();
        x.looker(605);
        x.looker(902);
        Due.weights(x, 0, 1, 2, 3, 4);
        Due.weights(x, 3, 1, 0, 0, 0);
        x.mend(1, 4, 50);
        x.mend(0, 10, 200);
        x.mend(0, 7, 1);
        x.mend(0, 8, 7);
        x.undo();
        x.undo();
        Due.tell(x, "s-t*2+l/5-n");
        x.feed('7');
        x.feed('+');
        x.feed('s');
        for (int kind = 0; kind < 8; kind++) x.body(kind);
        Due.bytes(x, 0, 0, 1, 1, 0);
        x.row(1, 1, 3);
        x.put(1, 1, 300);
        x.row(2, 3, 2);
        x.put(2, 1, Long.MIN_VALUE);
        x.keep(3, 5);
        Due.bytes(x, 5, 1, 0);
        x.open(0, 77);
        x.look(0);
        x.image();
        x.look(1);
        x.act(5, 3, 9);
        return x;
    }

    private static StoneInLentils full() {
        StoneInLentils x = new StoneInLentils();
        for (int i = 0; i < 6; i++) x.looker(100 * i + i);
        for (int i = 0; i < 60; i++) {
            x.feed('1');
            x.feed('+');
        }
        for (int i = 0; i < 50; i++) x.body(i % 8);
        for (int i = 0; i < 41; i++) x.mend(i % 4, 4, 20 + i);
        Due.bytes(x, 0, 1, 1, 2, 2);
        return x;
    }

    private static List<Long> allAnswers(StoneInLentils x) {
        List<Long> all = new ArrayList<>();
        numbers(x, all);
        for (int what = 0; what < 5; what++) all.add((long) x.count(what));
        for (int i = 0; i < 11; i++) all.add((long) x.trace(i));
        for (int shelf = 0; shelf < 6; shelf++) {
            all.add((long) x.taken(shelf, 0));
            for (int i = 0; i < 4; i++) all.add(x.element(shelf, i));
        }
        for (int who = 0; who < 6; who++) all.add((long) x.finds(who, 1));
        deeds(x, all);
        all.add((long) x.back());
        deeds(x, all);
        changes(x, all);
        all.add((long) x.law());
        for (int who = 0; who < 2; who++) all.add((long) x.finds(who, 1));
        all.add((long) x.looker(0));
        all.add((long) x.body(0));
        return all;
    }

    private static void numbers(StoneInLentils x, List<Long> all) {
        for (int bag = 0; bag < 4; bag++) {
            for (int what = 0; what < 5; what++) all.add((long) x.of(bag, what));
        }
        for (int who = 0; who < 6; who++) {
            all.add((long) x.of(who, 5));
            all.add((long) x.of(who, 6));
        }
        for (int what = 7; what < 12; what++) all.add((long) x.of(0, what));
    }

    private static void deeds(StoneInLentils x, List<Long> all) {
        for (int what = 0; what < 6; what++) all.add((long) x.led(what));
        for (int i = 0; i < 3; i++) all.add((long) x.look(0));
        all.add((long) x.eat());
        for (int what = 0; what < 5; what++) all.add((long) x.led(what));
    }

    private static void changes(StoneInLentils x, List<Long> all) {
        long answer = 0;
        while (answer >= 0) {
            answer = x.redo();
            all.add(answer);
        }
        all.add((long) x.of(0, 7));
        all.add((long) x.of(0, 8));
        answer = 0;
        while (answer >= 0) {
            answer = x.undo();
            all.add(answer);
        }
        numbers(x, all);
    }

    private static void refusedByANewOne() {
        due.sentence("What is answered so changes nothing.");
        for (int sc : new int[] {-1, 1300, LEAST, GREATEST}) refused("looker " + sc, -1, x -> x.looker(sc));
        refused("lookers of nothing", 0, x -> x.lookers(0, 0, 6));
        refused("mend of no looker", -1, x -> x.mend(0, 5, 6));
        refused("of no looker", -1, x -> x.of(0, 5));
        refused("finds of no looker", -1, x -> x.finds(0, 0));
        refused("left of nothing", NONE, x -> x.left(0, 0, 0, 0));
        refused("mean of nothing", NONE, x -> x.mean(0, 0, 2, 0));
        refused("worth of nothing", NONE, x -> x.worth(0, 6, 0));
        refused("next of nothing", -11, x -> x.next(0, 0));
        refused("first of nobody", -2, x -> x.plan(0, 3, 2));
        refused("heaps of nobody", -1, x -> x.heaps(1, 1, 2));
        refused("who of nothing", -11, x -> x.who(0, 0, 0, 0));
        refused("drawn of nothing", -11, x -> x.drawn(0, 0, 1, 0));
        refused("open", -1, x -> x.open(4, 0));
        refused("look", -1, x -> x.look(0));
        refused("eat", -5, x -> x.eat());
        refused("led", -5, x -> x.led(5));
        refused("back", -5, x -> x.back());
        refused("undo", -5, x -> x.undo());
        refused("redo", -5, x -> x.redo());
        refused("body", -1, x -> x.body(8));
        refused("trace", -1, x -> x.trace(0));
        refused("keep", -1, x -> x.keep(0, 0));
        refused("put", -11, x -> x.put(0, 0, 1));
        refused("element", NONE, x -> x.element(0, 0));
        refused("shift", -11, x -> x.shift(0, 0, 1, 0, 0));
        refused("taken", -11, x -> x.taken(0, 0));
        refused("law of an empty tape", -100, x -> x.law());
    }

    private static void badOnesOfBusy() {
        due.sentence("BAD (-1): no such number, or it is not as said");
        for (int wrong : new int[] {-1, 4, LEAST, GREATEST}) {
            refused("mend bag " + wrong, -1, x -> x.mend(wrong, 0, 1));
            refused("mend price of " + wrong, -1, x -> x.mend(wrong, 4, 1));
            refused("mend looker " + wrong, -1, x -> x.mend(wrong, 5, 1));
            refused("mend number " + wrong, -1, x -> x.mend(wrong, 10, 1));
            refused("of " + wrong, -1, x -> x.of(wrong, 0));
            refused("left " + wrong, NONE, x -> x.left(0, 0, wrong, 0));
            refused("mean " + wrong, NONE, x -> x.mean(0, 0, wrong, 0));
            refused("worth " + wrong, NONE, x -> x.worth(0, 0, wrong));
            refused("next " + wrong, -1, x -> x.next(0, wrong));
            refused("plan " + wrong, NONE, x -> x.plan(0, wrong, 0));
            refused("buy " + wrong, NONE, x -> x.buy(wrong));
            refused("lists " + wrong, NONE, x -> x.lists(10101, wrong, 0));
            refused("handful " + wrong, NONE, x -> x.handful(0, 101, wrong, 0));
            refused("heaps " + wrong, -1, x -> x.heaps(1, 1, wrong));
            refused("who " + wrong, -1, x -> x.who(5, 0, 1, wrong));
            refused("drawn " + wrong, -1, x -> x.drawn(0, 0, 1, wrong));
            refused("open " + wrong, -1, x -> x.open(wrong, 0));
            refused("look " + wrong, -1, x -> x.look(wrong));
        }
        for (int what : new int[] {-1, 12, LEAST, GREATEST}) {
            refused("mend what " + what, -1, x -> x.mend(0, what, 1));
            refused("of what " + what, -1, x -> x.of(0, what));
            refused("led " + what, -1, x -> x.led(what));
            refused("count " + what, -1, x -> x.count(what));
            refused("finds n " + what, -1, x -> x.finds(0, what));
            refused("trace " + what, -1, x -> x.trace(what));
            refused("body " + what, -1, x -> x.body(what));
        }
        int[] greatest = {9, 9, 9, 9, 99, 12, 99, 9, 9, 9, 999, 12};
        for (int what = 0; what < 12; what++) {
            int is = what;
            int least = what == 9 ? 1 : 0;
            for (int v : new int[] {least - 1, greatest[what] + 1, LEAST, GREATEST}) refused("mend to " + v, -1, x -> x.mend(0, is, v));
        }
        for (int v : new int[] {-1, 256, LEAST, GREATEST}) refused("feed " + v, -1, x -> x.feed(v));
        for (int v : new int[] {-1, 210000, 102, GREATEST}) refused("likeliest " + v, -1, x -> x.likeliest(v));
        for (int v : new int[] {-1, 0, 102, 2100, GREATEST}) refused("sees for " + v, -1, x -> x.seesFor(v));
        for (int g : new int[] {-1, 100}) refused("besides " + g, NONE, x -> x.besides(201, g, 0));
        for (int n : new int[] {0, 41}) refused("heaps " + n, -1, x -> x.heaps(n, 1, 0));
        for (int m : new int[] {-1, 1000}) refused("heaps for " + m, -1, x -> x.heaps(1, m, 0));
    }

    private static void notOnesOfBusy() {
        due.sentence("NOT (-2): as told");
        for (int part = 0; part < 2; part++) {
            int is = part;
            refused("left", -2, x -> x.left(0, 3, 0, is));
            refused("mean left", -2, x -> x.mean(0, 3, 0, is));
            refused("sure", -2, x -> x.mean(0, 3, 1, is));
            refused("worth", -2, x -> x.worth(0, 30, is));
            refused("lists", -2, x -> x.lists(50500, 1, is));
            refused("besides", -2, x -> x.besides(500, 5, is));
        }
        refused("next", -2, x -> x.next(0, 3));
        refused("first", -2, x -> x.plan(0, 0, 2));
        refused("most", -2, x -> x.who(5, 3, 2, 0));
    }

    private static void shelvesOfBusy() {
        due.sentence("-11 to -14");
        for (int shelf : new int[] {1, 2, 3}) {
            refused("lookers", -12, x -> x.lookers(shelf, 0, 1));
            refused("next", -12, x -> x.next(shelf, 0));
            refused("who", -12, x -> x.who(shelf, 0, 0, 0));
            refused("drawn", -12, x -> x.drawn(shelf, 0, 1, 0));
            refused("left", NONE, x -> x.left(shelf, 0, 0, 0));
            refused("shift to unlike", -12, x -> x.shift(shelf, 0, 0, 0, 1));
            refused("shift from unlike", -12, x -> x.shift(0, 0, shelf, 0, 1));
        }
        for (int i : new int[] {-1, 4, LEAST, GREATEST}) {
            refused("put", -13, x -> x.put(0, i, 1));
            refused("element", NONE, x -> x.element(0, i));
            refused("shift", -13, x -> x.shift(0, i, 5, 0, 1));
            refused("shift", -13, x -> x.shift(0, 0, 5, i, 1));
        }
        refused("shift of too many", -13, x -> x.shift(0, 0, 5, 0, 3));
        refused("shift of too many", -13, x -> x.shift(5, 0, 0, 0, 3));
        refused("shift of fewer than none", -13, x -> x.shift(0, 0, 5, 0, -1));
        refused("put to nothing", -11, x -> x.put(4, 0, 1));
        refused("put to a body", -12, x -> x.put(3, 0, 1));
        refused("shift from nothing", -11, x -> x.shift(4, 0, 0, 0, 1));
        refused("shift to nothing", -11, x -> x.shift(0, 0, 4, 0, 1));
        refused("taken from nothing", -11, x -> x.taken(4, 0));
        refused("taken from a row", -12, x -> x.taken(0, 0));
        refused("taken for another kind", -12, x -> x.taken(3, 1));
        for (int n : new int[] {-1, LEAST}) refused("row", -14, x -> x.row(0, 0, n));
        for (int n : new int[] {61, GREATEST}) refused("row", -1, x -> x.row(0, 0, n));
        for (int sort : new int[] {-1, 5}) refused("row", -1, x -> x.row(3, sort, 1));
        for (int body : new int[] {-2, 8, LEAST, GREATEST}) refused("keep", -1, x -> x.keep(3, body));
    }

    private static void statesOfBusy() {
        due.sentence("STATE (-5): as told");
        for (int bag = 0; bag < 4; bag++) {
            int is = bag;
            refused("open", -5, x -> x.open(is, 5));
        }
    }

    private static void bothAtOnceOfBusy() {
        due.sentence("Answers, of several the one named first");
        refused("BAD ahead of STATE", -1, x -> x.open(4, 5));
        refused("BAD ahead of -12", -1, x -> x.lookers(1, 0, 0));
        refused("BAD ahead of -12", -1, x -> x.next(1, 4));
        refused("BAD ahead of -12", -1, x -> x.who(1, 0, 3, 0));
        refused("BAD ahead of -12", -1, x -> x.who(1, 0, 1, 4));
        refused("BAD ahead of -12", -1, x -> x.drawn(1, 0, 0, 0));
        refused("BAD ahead of -12", -1, x -> x.taken(0, 8));
        refused("BAD ahead of -11", -1, x -> x.next(4, 4));
        refused("BAD ahead of -11", -1, x -> x.who(4, 0, 0 - 1, 0));
        refused("BAD ahead of -11", -1, x -> x.who(4, 0, 2, -1));
        refused("BAD ahead of -11", -1, x -> x.drawn(4, 0, 0, 0));
        refused("BAD ahead of -11", -1, x -> x.taken(4, 8));
        refused("BAD ahead of -11", -1, x -> x.shift(4, 0, 6, 0, 1));
        refused("-11 ahead of -12", -11, x -> x.shift(3, 0, 4, 0, 1));
        refused("-11 ahead of -12", -11, x -> x.shift(4, 0, 3, 0, 1));
        refused("-11 ahead of -13", -11, x -> x.put(4, -1, 1));
        refused("-11 ahead of -13", -11, x -> x.shift(4, -1, 0, 0, 1));
        refused("-12 ahead of -13", -12, x -> x.put(3, -1, 1));
        refused("-12 ahead of -13", -12, x -> x.shift(0, -1, 1, 0, 1));
        refused("BAD ahead of -14", -1, x -> x.row(6, 0, -1));
        refused("BAD ahead of -14", -1, x -> x.row(0, 5, -1));
        refused("BAD ahead of NOT", NONE, x -> x.left(0, 3, 4, 0));
        refused("BAD ahead of NOT", NONE, x -> x.left(0, 3, 0, 2));
        refused("BAD ahead of NOT", NONE, x -> x.mean(0, 3, 0, 2));
        refused("BAD ahead of NOT", NONE, x -> x.mean(0, 3, 3, 0));
        refused("BAD ahead of NOT", NONE, x -> x.worth(0, 32, 0));
        refused("BAD ahead of NOT", NONE, x -> x.worth(0, 30, 2));
        refused("BAD ahead of NOT", NONE, x -> x.lists(50500, 2, 0));
        refused("BAD ahead of NOT", NONE, x -> x.lists(50500, 0, 2));
        refused("BAD ahead of NOT", NONE, x -> x.besides(500, 100, 0));
        refused("BAD ahead of NOT", NONE, x -> x.besides(500, 5, 2));
        refused("BAD ahead of NOT", -1, x -> x.who(5, 3, 2, 2));
    }

    private static void questionsOfBusy() {
        due.sentence("looks in thought (a ROW of looks on a SHELF, a BAG)");
        refused("of", 200, x -> x.of(0, 10));
        refused("left", 0, x -> x.left(0, 0, 3, 0));
        refused("likely of an impossible one", 0, x -> x.mean(0, 3, 2, 0));
        refused("worth", 1, x -> Math.min(1, Math.abs(x.worth(0, 0, 0))));
        refused("next", 1, x -> x.next(0, 0));
        refused("plan", 1, x -> x.plan(0, 3, 2));
        refused("buy", 3, x -> x.buy(2));
        refused("lists", 1, x -> x.lists(10101, 0, 0));
        refused("likeliest", 1, x -> x.likeliest(10101));
        refused("sees for", 6, x -> x.seesFor(201));
        refused("besides", 2, x -> x.besides(201, 1, 0));
        refused("handful", 1, x -> x.handful(0, 100, 0, 0));
        refused("heaps", 0, x -> x.heaps(40, 0, 0));
        refused("who", 4, x -> x.who(5, 0, 0, 0));
        refused("drawn", 0, x -> x.drawn(0, 5, 330, 0));
        refused("finds", 0, x -> x.finds(0, 9));
        refused("led", 2, x -> x.led(5));
        refused("trace", 61, x -> x.trace(0));
        refused("element", 300, x -> x.element(1, 1));
        refused("taken", 5, x -> x.taken(3, 3));
        refused("count", 8, x -> x.count(3));
        refused("the same number", 200, x -> x.mend(0, 10, 200));
        refused("a body again", 1, x -> x.keep(3, 5));
        refused("nothing again", 1, x -> x.keep(4, -1));
        refused("none shifted", 0, x -> x.shift(0, 4, 5, 2, 0));
    }

    private static void refusedByAFullOne() {
        due.sentence("FULL (-3)");
        refused("looker", -3, x -> x.looker(605));
        refused("feed", -3, x -> x.feed('1'));
        refused("body", -3, x -> x.body(0));
        refused("lookers", 0, x -> x.lookers(0, 0, 2));
        refused("heaps", -5, x -> x.heaps(1, 1, 0));
        refused("look", -5, x -> x.look(5));
        refused("eat", -5, x -> x.eat());
        refused("redo", -5, x -> x.redo());
        refused("BAD ahead of FULL", -1, x -> x.looker(1300));
        refused("BAD ahead of FULL", -1, x -> x.feed(256));
        refused("BAD ahead of FULL", -1, x -> x.body(8));
        refused("BAD ahead of STATE", -1, x -> x.heaps(0, 1, 0));
        refused("BAD ahead of STATE", -1, x -> x.heaps(1, 1, 8));
        refused("BAD ahead of STATE", -1, x -> x.look(6));
    }

    /** Of what an act that is none answers, THE TRACE alone is not as it was. */
    private static void actThatIsNone() {
        due.sentence("0, and no TRACE then: no such BODY, ACT.");
        for (int[] wrong : new int[][] {{8, 0}, {-1, 0}, {0, 4}, {0, -1}, {GREATEST, GREATEST}, {LEAST, LEAST}}) {
            StoneInLentils x = busy();
            due.is("act", x.act(wrong[0], wrong[1], 5), 0);
            due.is("none ran", x.count(4), 0);
            for (int i = 0; i < 11; i++) due.is("no trace", x.trace(i), -1);
            due.is("the same again", x.act(5, 3, 9), busy().act(5, 3, 9));
            in("busy", RefusedTest::busy);
            due.holds("all else is as it was", allAnswers(x).equals(untouched));
        }
    }
}
