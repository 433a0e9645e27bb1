/** Promises 31 to 40: bodies and acts, shelves, counts. */
public final class ShelfTest {
    private static final Due due = new Due("ShelfTest");

    /** The KINDS written out as Java's own classes: what they answer is due. */
    private static StringBuilder ran = new StringBuilder();

    interface Picks {
        int number();

        default int picks(int x) {
            ran.append("1 ");
            return x + number();
        }
    }

    interface Tells {
        int finds(int x);

        int leaves(int x);

        default int tells(int x) {
            ran.append("2 ");
            return finds(x) - leaves(1);
        }
    }

    static class Look implements Picks, Tells {
        int n;

        public int number() {
            return n;
        }

        public int finds(int x) {
            ran.append("10 ");
            return picks(x) * 2;
        }

        public int leaves(int x) {
            ran.append("11 ");
            return x ^ n;
        }

        public int picks(int x) {
            return Picks.super.picks(x);
        }

        public int tells(int x) {
            return Tells.super.tells(x);
        }
    }

    static class Quick extends Look {
        public int picks(int x) {
            ran.append("20 ");
            return super.picks(x) + 3;
        }
    }

    static class Slow extends Look {
        public int finds(int x) {
            ran.append("30 ");
            return -super.finds(x);
        }
    }

    static class Lamped extends Slow {
        public int leaves(int x) {
            ran.append("40 ");
            return super.leaves(x) * 3;
        }

        public int finds(int x) {
            ran.append("41 ");
            return super.finds(x + 1);
        }
    }

    static class Talked extends Quick {
        public int tells(int x) {
            ran.append("50 ");
            return super.tells(x) ^ 5;
        }
    }

    static class Washed extends Lamped {
        public int leaves(int x) {
            ran.append("60 ");
            return super.leaves(x) - picks(2);
        }

        public int tells(int x) {
            ran.append("61 ");
            return super.tells(x) + 1;
        }
    }

    static class Counted extends Look {
        public int picks(int x) {
            ran.append("70 ");
            return super.picks(x) * 2;
        }
    }

    static class Tooth extends Counted {
        public int finds(int x) {
            ran.append("80 ");
            return super.finds(x) + leaves(2);
        }

        public int picks(int x) {
            ran.append("81 ");
            return super.picks(x) - 1;
        }
    }

    private static Look made(int kind) {
        switch (kind) {
            case 0: return new Look();
            case 1: return new Quick();
            case 2: return new Slow();
            case 3: return new Lamped();
            case 4: return new Talked();
            case 5: return new Washed();
            case 6: return new Counted();
            default: return new Tooth();
        }
    }

    private static int done(Look one, int act, int x) {
        switch (act) {
            case 0: return one.picks(x);
            case 1: return one.finds(x);
            case 2: return one.leaves(x);
            default: return one.tells(x);
        }
    }

    public static void main(String[] args) {
        bodies();
        acts();
        keepAndTaken();
        rows();
        sorts();
        shift();
        counts();
        due.end();
    }

    private static void bodies() {
        StoneInLentils x = new StoneInLentils();
        due.is("31: kind -1", x.body(-1), -1);
        due.is("31: kind 8", x.body(8), -1);
        for (int i = 0; i < 50; i++) due.is("31: body", x.body(i % 8), i);
        due.is("31: full", x.body(0), -3);
        due.is("31: BAD ahead of FULL", x.body(8), -1);
        due.is("40: bodies", x.count(3), 50);
    }

    private static void acts() {
        StoneInLentils x = null;
        int[] xs = {0, 1, -1, 5, 1000, Integer.MAX_VALUE, Integer.MIN_VALUE};
        for (int i = 0; i < 16; i++) {
            x = new StoneInLentils();
            for (int k = 0; k <= i; k++) x.body(k % 8);
            Look one = made(i % 8);
            one.n = i;
            for (int act = 0; act < 4; act++) {
                for (int v : xs) actOnce(x, one, i, act, v);
            }
        }
        for (int wrong : new int[] {-1, 16, Integer.MAX_VALUE}) {
            x.act(3, 3, 5);
            due.is("32: no such body", x.act(wrong, 0, 5), 0);
            due.is("32: no trace then", x.count(4), 0);
            due.is("33: no trace then", x.trace(0), -1);
        }
        for (int wrong : new int[] {-1, 4}) {
            x.act(3, 3, 5);
            due.is("32: no such act", x.act(3, wrong, 5), 0);
            due.is("32: no trace then", x.count(4), 0);
        }
    }

    private static void actOnce(StoneInLentils x, Look one, int i, int act, int v) {
        ran.setLength(0);
        due.is("32: act(" + i + ", " + act + ", " + v + ")", x.act(i, act, v), done(one, act, v));
        String[] numbers = ran.toString().split(" ");
        due.is("40: how many ran", x.count(4), numbers.length);
        for (int j = 0; j < numbers.length; j++) due.is("33: trace(" + j + ")", x.trace(j), Integer.parseInt(numbers[j]));
        due.is("33: behind the last", x.trace(numbers.length), -1);
        due.is("33: ahead of the first", x.trace(-1), -1);
    }

    private static void keepAndTaken() {
        StoneInLentils x = new StoneInLentils();
        int[] above = {-1, 0, 0, 2, 1, 3, 0, 6};
        for (int kind = 0; kind < 8; kind++) x.body(kind);
        for (int kind = 0; kind < 8; kind++) {
            due.is("34: keep", x.keep(kind % 6, kind), 1);
            for (int k = 0; k < 8; k++) {
                boolean under = false;
                for (int at = kind; at >= 0; at = above[at]) under |= at == k;
                due.is("39: taken", x.taken(kind % 6, k), under ? kind : -12);
            }
        }
        due.is("34: nothing", x.keep(0, -1), 1);
        due.is("39: nothing", x.taken(0, 0), -11);
        due.is("39: BAD ahead of -11", x.taken(0, 8), -1);
        due.is("39: k", x.taken(1, -1), -1);
        due.is("39: shelf", x.taken(6, 0), -1);
        due.is("39: shelf", x.taken(-1, 0), -1);
        x.row(2, 0, 3);
        due.is("39: a row", x.taken(2, 0), -12);
        for (int wrong : new int[] {-2, 8, Integer.MAX_VALUE}) due.is("34: no such body", x.keep(1, wrong), -1);
        due.is("34: shelf", x.keep(6, 0), -1);
        due.is("34: shelf", x.keep(-1, -1), -1);
        due.is("34: it changed nothing", x.taken(1, 0), 7);
    }

    private static void rows() {
        StoneInLentils x = new StoneInLentils();
        x.body(0);
        due.is("35: shelf", x.row(6, 0, 1), -1);
        due.is("35: shelf", x.row(-1, 0, 1), -1);
        due.is("35: sort", x.row(0, 5, 1), -1);
        due.is("35: sort", x.row(0, -1, 1), -1);
        due.is("35: n 61", x.row(0, 0, 61), -1);
        due.is("35: n -1", x.row(0, 0, -1), -14);
        due.is("35: the least n", x.row(0, 0, Integer.MIN_VALUE), -14);
        due.is("35: BAD ahead of -14", x.row(0, 5, -1), -1);
        due.is("35: nothing was held", x.put(0, 0, 1), -11);
        due.is("35: sixty", x.row(0, 0, 60), 1);
        for (int i = 0; i < 60; i++) due.is("36: put", x.put(0, i, i - 30), 1);
        for (int i = 0; i < 60; i++) due.is("37: element", x.element(0, i), i - 30);
        for (int i : new int[] {-1, 60, Integer.MAX_VALUE, Integer.MIN_VALUE}) {
            due.is("36: no place", x.put(0, i, 1), -13);
            due.is("37: no place", x.element(0, i), Due.NONE);
        }
        x.row(0, 0, 60);
        for (int i = 0; i < 60; i++) due.is("35: 0 at first", x.element(0, i), 0);
        x.row(0, 0, 0);
        due.is("36: an empty one", x.put(0, 0, 1), -13);
        x.keep(1, 0);
        due.is("36: a body", x.put(1, 0, 1), -12);
        due.is("36: a body ahead of a place", x.put(1, -1, 1), -12);
        due.is("37: a body", x.element(1, 0), Due.NONE);
        due.is("37: nothing", x.element(2, 0), Due.NONE);
        due.is("36: shelf", x.put(6, 0, 1), -1);
        due.is("36: shelf", x.put(-1, 0, 1), -1);
        due.is("37: shelf", x.element(6, 0), Due.NONE);
        due.is("37: shelf", x.element(-1, 0), Due.NONE);
    }

    private static void sorts() {
        StoneInLentils x = new StoneInLentils();
        for (int sort = 0; sort < 5; sort++) x.row(sort, sort, 1);
        long[] values = {0, 1, -1, 127, 128, 255, 256, 32767, 32768, 65536, 2147483647L, 2147483648L, 1L << 32, 1L << 40,
            Long.MAX_VALUE, Long.MIN_VALUE, -129, -32769};
        for (long v : values) {
            long[] want = {(byte) v, (short) v, (int) v, v, v != 0 ? 1 : 0};
            for (int sort = 0; sort < 5; sort++) {
                x.put(sort, 0, v);
                due.is("36: sort " + sort + " keeps of " + v, x.element(sort, 0), want[sort]);
            }
        }
    }

    private static void shift() {
        StoneInLentils x = new StoneInLentils();
        x.body(0);
        Due.bytes(x, 0, 1, 2, 3, 4, 5);
        Due.bytes(x, 1, 0, 0, 0);
        due.is("38: to another", x.shift(0, 1, 1, 0, 3), 3);
        for (int i = 0; i < 3; i++) due.is("38: came", x.element(1, i), i + 2);
        due.is("38: up the same", x.shift(0, 0, 0, 1, 4), 4);
        int[] up = {1, 1, 2, 3, 4};
        for (int i = 0; i < 5; i++) due.is("38: as they were", x.element(0, i), up[i]);
        due.is("38: down the same", x.shift(0, 2, 0, 0, 3), 3);
        int[] down = {2, 3, 4, 3, 4};
        for (int i = 0; i < 5; i++) due.is("38: as they were", x.element(0, i), down[i]);
        due.is("38: none", x.shift(0, 5, 1, 3, 0), 0);
        int[][] places = {{-1, 0, 1}, {0, -1, 1}, {0, 0, -1}, {0, 0, 4}, {3, 0, 3}, {0, 1, 3}, {6, 0, 0}, {0, 4, 0},
            {Integer.MAX_VALUE, 0, 1}, {1, 0, Integer.MAX_VALUE}, {0, Integer.MAX_VALUE, Integer.MAX_VALUE}, {0, 0, Integer.MIN_VALUE}};
        for (int[] p : places) due.is("38: no place", x.shift(0, p[0], 1, p[1], p[2]), -13);
        for (int i = 0; i < 5; i++) due.is("38: it changed nothing", x.element(0, i), down[i]);
        x.row(2, 1, 5);
        x.keep(3, 0);
        due.is("38: unlike sorts", x.shift(0, 0, 2, 0, 1), -12);
        due.is("38: a body", x.shift(0, 0, 3, 0, 1), -12);
        due.is("38: from a body", x.shift(3, 0, 0, 0, 1), -12);
        due.is("38: two bodies", x.shift(3, 0, 3, 0, 1), -12);
        due.is("38: -12 ahead of -13", x.shift(0, 9, 2, 0, 1), -12);
        due.is("38: nothing there", x.shift(0, 0, 4, 0, 1), -11);
        due.is("38: from nothing", x.shift(4, 0, 0, 0, 1), -11);
        due.is("38: -11 ahead of -12", x.shift(3, 0, 4, 0, 1), -11);
        for (int wrong : new int[] {-1, 6}) {
            due.is("38: shelf", x.shift(wrong, 0, 0, 0, 1), -1);
            due.is("38: other", x.shift(0, 0, wrong, 0, 1), -1);
            due.is("38: BAD ahead of -11", x.shift(4, 0, wrong, 0, 1), -1);
        }
        x.row(5, 3, 2);
        x.put(5, 0, Long.MIN_VALUE);
        due.is("38: longs", x.shift(5, 0, 5, 1, 1), 1);
        due.is("38: longs", x.element(5, 1), Long.MIN_VALUE);
    }

    private static void counts() {
        StoneInLentils x = new StoneInLentils();
        x.looker(605);
        x.feed('1');
        x.feed('2');
        for (int i = 1; i < 4; i++) x.mend(0, 7, i);
        for (int i = 0; i < 5; i++) x.body(0);
        x.act(4, 3, 0);
        int[] want = {1, 2, 3, 5, 4};
        for (int i = 0; i < 5; i++) due.is("40: count(" + i + ")", x.count(i), want[i]);
        due.is("40: what", x.count(5), -1);
        due.is("40: what", x.count(-1), -1);
    }
}
