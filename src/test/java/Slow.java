import java.math.BigInteger;
import java.util.ArrayList;
import java.util.HashMap;
import java.util.List;
import java.util.Map;

/**
 * The document told a second time, slowly and with Java's library: fractions of BigIntegers, each
 * STONE's fate for itself, laws worked out by cutting their text, lists of changes. Random runs are
 * held against it.
 */
final class Slow {
    static final long NONE = Long.MIN_VALUE;

    record Fraction(BigInteger above, BigInteger below) implements Comparable<Fraction> {
        static Fraction of(long a, long b) {
            return new Fraction(BigInteger.valueOf(a), BigInteger.valueOf(b)).lowest();
        }

        Fraction lowest() {
            BigInteger like = above.gcd(below);
            if (below.signum() < 0) like = like.negate();
            return new Fraction(above.divide(like), below.divide(like));
        }

        Fraction plus(Fraction o) {
            return new Fraction(above.multiply(o.below).add(o.above.multiply(below)), below.multiply(o.below)).lowest();
        }

        Fraction times(Fraction o) {
            return new Fraction(above.multiply(o.above), below.multiply(o.below)).lowest();
        }

        Fraction by(Fraction o) {
            return new Fraction(above.multiply(o.below), below.multiply(o.above)).lowest();
        }

        Fraction minus(Fraction o) {
            return plus(o.times(of(-1, 1)));
        }

        public int compareTo(Fraction o) {
            return above.multiply(o.below).compareTo(o.above.multiply(below));
        }

        boolean isZero() {
            return above.signum() == 0;
        }

        long part(int part) {
            return (part == 0 ? above : below).longValueExact();
        }
    }

    static final Fraction ZERO = Fraction.of(0, 1);
    static final Fraction ONE = Fraction.of(1, 1);

    record Change(int number, int what, int before, int after) { }

    record Deed(int bag, int stones, int z, int looks, int[] led) { }

    final int[][] bags = new int[4][5];
    final List<int[]> lookers = new ArrayList<>();
    final int[] rest = {0, 5, 1, 100, 4};
    final StringBuilder tape = new StringBuilder();
    String law = null;
    List<Change> done = new ArrayList<>();
    List<Change> undone = new ArrayList<>();
    Deed now = new Deed(-1, 0, 0, 0, new int[5]);
    Deed image = null;
    final Object[] shelves = new Object[6];
    final int[] sorts = new int[6];
    final List<Integer> bodies = new ArrayList<>();

    Slow() {
        for (int[] bag : bags) {
            for (int i = 0; i < 5; i++) bag[i] = i == 4 ? 10 : 1;
        }
    }

    int looker(int sc) {
        if (sc < 0 || sc > 1299) return -1;
        if (lookers.size() == 6) return -3;
        lookers.add(new int[] {sc / 100, sc % 100});
        return lookers.size() - 1;
    }

    int lookers(int shelf, int i, int n) {
        if (shelf < 0 || shelf > 5 || n < 1 || n > 6) return -1;
        if (shelves[shelf] == null) return 0;
        if (!(shelves[shelf] instanceof long[] row) || sorts[shelf] != 0) return -12;
        int came = 0;
        for (long at = i; came < n && at >= 0 && at + 1 < row.length && lookers.size() < 6; at += 2) {
            long sees = row[(int) at];
            long cost = row[(int) at + 1];
            if (sees < 0 || sees > 12 || cost < 0 || cost > 99) break;
            lookers.add(new int[] {(int) sees, (int) cost});
            came++;
        }
        return came;
    }

    private int[] place(int number, int what) {
        if (what < 0 || what > 11) return null;
        if (what < 5) return number >= 0 && number < 4 ? bags[number] : null;
        if (what < 7) return number >= 0 && number < lookers.size() ? lookers.get(number) : null;
        return number == 0 ? rest : null;
    }

    private static int at(int what) {
        return what < 5 ? what : what < 7 ? what - 5 : what - 7;
    }

    int mend(int number, int what, int v) {
        int[] in = place(number, what);
        if (in == null) return -1;
        int[] greatest = {9, 9, 9, 9, 99, 12, 99, 9, 9, 9, 999, 12};
        if (v < (what == 9 ? 1 : 0) || v > greatest[what]) return -1;
        int was = in[at(what)];
        if (was != v) {
            done.add(new Change(number, what, was, v));
            if (done.size() > 40) done.remove(0);
            undone.clear();
            in[at(what)] = v;
        }
        return was;
    }

    int of(int number, int what) {
        int[] in = place(number, what);
        return in == null ? -1 : in[at(what)];
    }

    int undo() {
        if (done.isEmpty()) return -5;
        Change c = done.remove(done.size() - 1);
        place(c.number, c.what)[at(c.what)] = c.before;
        undone.add(c);
        return done.size();
    }

    int redo() {
        if (undone.isEmpty()) return -5;
        Change c = undone.remove(undone.size() - 1);
        place(c.number, c.what)[at(c.what)] = c.after;
        done.add(c);
        return undone.size();
    }

    int feed(int letter) {
        if (letter < 0 || letter > 255) return -1;
        if (tape.length() == 120) return -3;
        tape.append((char) letter);
        return tape.length();
    }

    int law() {
        String text = tape.toString();
        tape.setLength(0);
        int fault = fault(text);
        if (fault >= 0) return -100 - fault;
        law = text;
        return 1;
    }

    /** A machine that goes through the text once: what is open, and whether an O or what follows one is due. */
    static int fault(String text) {
        StringBuilder open = new StringBuilder();
        List<Boolean> compared = new ArrayList<>();
        boolean comparing = false;
        boolean asked = false;
        boolean wanted = true;
        int digits = 0;
        for (int i = 0; i < text.length(); i++) {
            char c = text.charAt(i);
            boolean isDigit = c >= '0' && c <= '9';
            if (wanted) {
                digits = isDigit ? 1 : 0;
                if (isDigit || "stlhnk".indexOf(c) >= 0) {
                    wanted = false;
                    closeSigns(open);
                } else if (c == '(' || c == '!' || c == '-') {
                    if (open.length() == 6) return i;
                    open.append(c);
                    if (c == '(') {
                        compared.add(comparing);
                        comparing = false;
                    }
                } else {
                    return i;
                }
                continue;
            }
            if (isDigit && digits > 0 && digits < 4) {
                digits++;
                continue;
            }
            digits = 0;
            boolean inside = open.indexOf("(") >= 0;
            if (c == ')' && inside) {
                open.setLength(open.length() - 1);
                closeSigns(open);
                comparing = compared.remove(compared.size() - 1);
                continue;
            }
            if ("+-*/%".indexOf(c) >= 0) wanted = true;
            else if ("<=>".indexOf(c) >= 0 && !comparing) wanted = comparing = true;
            else if ("|&".indexOf(c) >= 0) {
                wanted = true;
                comparing = false;
            } else if (c == ';' && !inside || c == '?' && !inside && !asked) {
                wanted = true;
                comparing = false;
                asked = c == '?';
            } else {
                return i;
            }
        }
        return wanted || open.indexOf("(") >= 0 ? text.length() : -1;
    }

    private static void closeSigns(StringBuilder open) {
        while (open.length() > 0 && open.charAt(open.length() - 1) != '(') open.setLength(open.length() - 1);
    }

    int worked(int looker, int n, int thick) {
        int[] who = lookers.get(looker);
        if (law == null) return Math.max(0, Math.min(12, who[0] - rest[0] - thick + 1));
        Map<Character, Integer> names = new HashMap<>();
        names.put('s', who[0]);
        names.put('t', rest[0]);
        names.put('l', rest[1]);
        names.put('h', thick);
        names.put('n', n);
        names.put('k', looker);
        int value = 0;
        for (String line : law.split(";")) {
            String[] halves = line.split("\\?");
            if (halves.length == 1) {
                value = value(line, names);
                break;
            }
            if (value(halves[0], names) != 0) {
                value = value(halves[1], names);
                break;
            }
        }
        return Math.max(0, Math.min(12, value));
    }

    /** Cuts a text at the last sign of the loosest kind that stands outside of all brackets. */
    static int value(String text, Map<Character, Integer> names) {
        for (String signs : new String[] {"|", "&", "<=>", "+-", "*/%"}) {
            int depth = 0;
            for (int i = text.length() - 1; i > 0; i--) {
                char c = text.charAt(i);
                if (c == ')') depth++;
                if (c == '(') depth--;
                char ahead = text.charAt(i - 1);
                boolean isBinary = ahead == ')' || Character.isLetterOrDigit(ahead);
                if (depth == 0 && isBinary && signs.indexOf(c) >= 0) {
                    return joined(c, value(text.substring(0, i), names), value(text.substring(i + 1), names));
                }
            }
        }
        char first = text.charAt(0);
        if (first == '!') return value(text.substring(1), names) == 0 ? 1 : 0;
        if (first == '-') return -value(text.substring(1), names);
        if (first == '(') return value(text.substring(1, text.length() - 1), names);
        return names.containsKey(first) ? names.get(first) : Integer.parseInt(text);
    }

    private static int joined(char sign, int a, int b) {
        switch (sign) {
            case '|': return (a != 0) | (b != 0) ? 1 : 0;
            case '&': return (a != 0) & (b != 0) ? 1 : 0;
            case '<': return a < b ? 1 : 0;
            case '=': return a == b ? 1 : 0;
            case '>': return a > b ? 1 : 0;
            case '+': return a + b;
            case '-': return a - b;
            case '*': return a * b;
            case '/': return b == 0 ? 0 : a / b;
            default: return b == 0 ? 0 : a % b;
        }
    }

    int finds(int looker, int n) {
        return looker < 0 || looker >= lookers.size() || n < 0 || n > 9 ? -1 : worked(looker, n, rest[2]);
    }

    // ---- in thought: how likely each number of STONES is, as fractions

    Fraction[] prior(int bag) {
        int all = bags[bag][0] + bags[bag][1] + bags[bag][2] + bags[bag][3];
        Fraction[] p = new Fraction[4];
        for (int j = 0; j < 4; j++) p[j] = all == 0 ? (j == 0 ? ONE : ZERO) : Fraction.of(bags[bag][j], all);
        return p;
    }

    /** Each STONE's fate for itself: all rows of fates of so many STONES in which just `found` are found. */
    static Fraction[] after(Fraction[] p, int share, int found) {
        Fraction[] next = {ZERO, ZERO, ZERO, ZERO};
        for (int stones = 0; stones < 4; stones++) {
            for (int fates = 0; fates < 1 << stones; fates++) {
                if (Integer.bitCount(fates) != found) continue;
                Fraction likely = p[stones];
                for (int i = 0; i < stones; i++) {
                    likely = likely.times(Fraction.of((fates >> i & 1) == 1 ? share : 12 - share, 12));
                }
                next[stones - found] = next[stones - found].plus(likely);
            }
        }
        return next;
    }

    static Fraction sum(Fraction[] p) {
        return p[0].plus(p[1]).plus(p[2]).plus(p[3]);
    }

    static Fraction stones(Fraction[] p) {
        return p[1].plus(p[2].times(Fraction.of(2, 1))).plus(p[3].times(Fraction.of(3, 1)));
    }

    List<int[]> looks(int shelf) {
        return looksOf((long[]) shelves[shelf]);
    }

    List<int[]> looksOf(long[] row) {
        List<int[]> looks = new ArrayList<>();
        for (int[] two : twos(row)) {
            if (two[1] < 0 || two[1] > 3) break;
            looks.add(two);
        }
        return looks;
    }

    /** By twos a LOOKER that is there, and whatever stands behind it. */
    List<int[]> twos(long[] row) {
        List<int[]> twos = new ArrayList<>();
        for (int i = 0; i + 1 < row.length && twos.size() < 4; i += 2) {
            if (row[i] < 0 || row[i] >= lookers.size()) break;
            twos.add(new int[] {(int) row[i], (int) row[i + 1]});
        }
        return twos;
    }

    Fraction[] behind(int shelf, int bag) {
        return behindRow((long[]) shelves[shelf], bag);
    }

    Fraction[] behindRow(long[] row, int bag) {
        Fraction[] p = prior(bag);
        int n = 0;
        for (int[] look : looksOf(row)) {
            p = after(p, worked(look[0], n, rest[2]), look[1]);
            n++;
        }
        return p;
    }

    boolean isBytes(int shelf) {
        return shelf >= 0 && shelf < 6 && shelves[shelf] instanceof long[] && sorts[shelf] == 0;
    }

    int refusal(int shelf) {
        return shelves[shelf] == null ? -11 : isBytes(shelf) ? 0 : -12;
    }

    long left(int shelf, int bag, int j, int part) {
        if (!isBytes(shelf) || bag < 0 || bag > 3 || j < 0 || j > 3 || part < 0 || part > 1) return NONE;
        Fraction[] p = behind(shelf, bag);
        return sum(p).isZero() ? -2 : p[j].by(sum(p)).part(part);
    }

    long mean(int shelf, int bag, int what, int part) {
        if (!isBytes(shelf) || bag < 0 || bag > 3 || what < 0 || what > 2 || part < 0 || part > 1) return NONE;
        Fraction[] p = behind(shelf, bag);
        if (what == 2) return sum(p).part(part);
        if (sum(p).isZero()) return -2;
        return (what == 0 ? stones(p) : p[0]).by(sum(p)).part(part);
    }

    Fraction worthOf(Fraction[] p, int who, int n) {
        int share = who == 6 ? rest[4] : worked(who, n, rest[2]);
        Fraction before = stones(p).by(sum(p));
        Fraction behind = ZERO;
        for (int found = 0; found < 4; found++) behind = behind.plus(stones(after(p, share, found)));
        behind = behind.by(sum(p));
        return before.minus(behind).times(Fraction.of(rest[3], 1)).minus(Fraction.of(who == 6 ? 1 : lookers.get(who)[1], 1));
    }

    long worth(int shelf, int by, int part) {
        if (!isBytes(shelf) || by < 0 || by > 39 || part < 0 || part > 1) return NONE;
        if (by % 10 != 6 && by % 10 >= lookers.size()) return NONE;
        Fraction[] p = behind(shelf, by / 10);
        return sum(p).isZero() ? -2 : worthOf(p, by % 10, looks(shelf).size()).part(part);
    }

    int next(int shelf, int bag) {
        if (shelf < 0 || shelf > 5 || bag < 0 || bag > 3) return -1;
        if (refusal(shelf) != 0) return refusal(shelf);
        Fraction[] p = behind(shelf, bag);
        if (sum(p).isZero()) return -2;
        int best = -2;
        Fraction most = ZERO;
        for (int who = 0; who < 7; who++) {
            if (who < 6 && who >= lookers.size()) continue;
            Fraction worth = worthOf(p, who, looks(shelf).size());
            if (worth.compareTo(most) > 0) {
                best = who;
                most = worth;
            }
        }
        return best;
    }

    /** The least cost with m looks to come, and who looks first. */
    Fraction least(Fraction[] p, int n, int m, int[] first) {
        Fraction least = stones(p).times(Fraction.of(rest[3], 1));
        first[0] = -2;
        if (m == 0 || sum(p).isZero()) return least;
        for (int who = 0; who < lookers.size(); who++) {
            Fraction cost = sum(p).times(Fraction.of(lookers.get(who)[1], 1));
            for (int found = 0; found < 4; found++) {
                cost = cost.plus(least(after(p, worked(who, n, rest[2]), found), n + 1, m - 1, new int[1]));
            }
            if (cost.compareTo(least) < 0) {
                least = cost;
                first[0] = who;
            }
        }
        return least;
    }

    long plan(int bag, int m, int part) {
        if (bag < 0 || bag > 3 || m < 0 || m > 3 || part < 0 || part > 2) return NONE;
        int[] first = new int[1];
        Fraction least = least(prior(bag), 0, m, first);
        return part == 2 ? first[0] : least.part(part);
    }

    long buy(int part) {
        if (part < 0 || part > 2) return NONE;
        Fraction best = null;
        int which = -1;
        for (int bag = 0; bag < 4; bag++) {
            Fraction all = least(prior(bag), 0, 2, new int[1]).plus(Fraction.of(bags[bag][4], 1));
            if (best == null || all.compareTo(best) < 0) {
                best = all;
                which = bag;
            }
        }
        return part == 2 ? which : best.part(part);
    }

    long handful(int bag, int nh, int what, int part) {
        int n = nh / 100;
        int h = nh % 100;
        if (bag < 0 || bag > 3 || nh < 0 || n < 1 || n > 60 || h > n || what < 0 || what > 1 || part < 0 || part > 1) return NONE;
        Fraction all = ZERO;
        Fraction without = ZERO;
        Fraction noStone = ZERO;
        int weights = 0;
        for (int j = 0; j <= Math.min(3, n); j++) weights += bags[bag][j];
        for (int j = 0; j <= Math.min(3, n); j++) {
            Fraction likely = weights == 0 ? (j == 0 ? ONE : ZERO) : Fraction.of(bags[bag][j], 1);
            all = all.plus(likely);
            // the handful is taken one by one
            for (int i = 0; i < h; i++) likely = likely.times(Fraction.of(Math.max(0, n - j - i), n - i));
            without = without.plus(likely);
            if (j == 0) noStone = likely;
        }
        if (what == 0) return without.by(all).part(part);
        return without.isZero() ? -2 : noStone.by(without).part(part);
    }

    int heaps(int n, int m, int what) {
        if (n < 1 || n > 40 || m < 0 || m > 999 || what < 0 || what > 1 && what - 2 >= lookers.size()) return -1;
        if (lookers.size() > 3) return -5;
        int[] best = null;
        int size = lookers.size();
        for (int c = 0; c <= (size > 2 ? n : 0); c++) {
            for (int b = 0; b <= (size > 1 ? n - c : 0); b++) {
                for (int a = 0; a <= (size > 0 ? n - c - b : 0); a++) {
                    int[] parts = {a, b, c};
                    int cost = 0;
                    int looked = 0;
                    for (int i = 0; i < size; i++) {
                        cost += parts[i] * lookers.get(i)[1];
                        looked += parts[i] * worked(i, 0, rest[2] + parts[i] / 5);
                    }
                    int[] one = {-looked, cost, a, b, c};
                    if (cost <= m && (best == null || java.util.Arrays.compare(one, best) < 0)) best = one;
                }
            }
        }
        return what == 0 ? -best[0] : best[what];
    }

    int who(int shelf, int bag, int what, int k) {
        if (shelf < 0 || shelf > 5 || bag < 0 || bag > 3 || what < 0 || what > 2) return -1;
        if (what > 0 && (k < 0 || k > 3)) return -1;
        if (refusal(shelf) != 0) return refusal(shelf);
        long[] row = (long[]) shelves[shelf];
        int told = 0;
        for (long found : row) {
            if (told == 4 || found < 0 || found > 3) break;
            told++;
        }
        if (what > 0 && k >= told) return -1;
        int rows = 1;
        for (int i = 0; i < told; i++) rows *= lookers.size();
        int can = 0;
        int sure = (1 << lookers.size()) - 1;
        int most = -2;
        Fraction greatest = ZERO;
        for (int r = 0; r < rows; r++) {
            long[] twos = new long[8];
            int rest = r;
            for (int i = told - 1; i >= 0; i--) {
                twos[2 * i] = rest % lookers.size();
                twos[2 * i + 1] = row[i];
                rest /= lookers.size();
            }
            Fraction likely = sum(behindRow(java.util.Arrays.copyOf(twos, 2 * told), bag));
            if (likely.isZero()) continue;
            can++;
            int kth = k >= 0 && k < 4 ? (int) twos[2 * k] : 0;
            sure &= 1 << kth;
            if (likely.compareTo(greatest) > 0) {
                greatest = likely;
                most = kth;
            }
        }
        return what == 0 ? can : what == 1 ? (can == 0 ? 0 : sure) : most;
    }

    // ---- draws, deeds

    private int z;

    private int draw(int among) {
        z = z * 1103515245 + 12345;
        return (z >>> 8) % among;
    }

    private int stonesOf(int bag) {
        List<Integer> all = new ArrayList<>();
        for (int j = 0; j < 4; j++) {
            for (int i = 0; i < bags[bag][j]; i++) all.add(j);
        }
        return all.isEmpty() ? 0 : all.get(draw(all.size()));
    }

    private int foundOf(int stones, int share) {
        int found = 0;
        for (int i = 0; i < stones; i++) found += draw(12) < share ? 1 : 0;
        return found;
    }

    int drawn(int shelf, int seed, int bn, int what) {
        if (shelf < 0 || shelf > 5 || bn < 0 || bn > 399 || bn % 100 < 1 || bn % 100 > 30 || what < 0 || what > 1) return -1;
        if (refusal(shelf) != 0) return refusal(shelf);
        z = seed;
        int left = 0;
        int cost = 0;
        for (int i = 0; i < bn % 100; i++) {
            int stones = stonesOf(bn / 100);
            int n = 0;
            for (int[] look : twos((long[]) shelves[shelf])) {
                stones -= foundOf(stones, worked(look[0], n, rest[2]));
                cost += lookers.get(look[0])[1];
                n++;
            }
            left += stones;
            cost += stones * rest[3];
        }
        return what == 0 ? left : cost;
    }

    int open(int bag, int seed) {
        if (bag < 0 || bag > 3) return -1;
        if (now.bag >= 0) return -5;
        z = seed;
        int stones = stonesOf(bag);
        now = new Deed(bag, stones, z, 0, now.led);
        return bag;
    }

    int look(int looker) {
        if (looker < 0 || looker >= lookers.size()) return -1;
        if (now.bag < 0) return -5;
        z = now.z;
        int found = foundOf(now.stones, worked(looker, now.looks, rest[2]));
        int[] led = now.led.clone();
        led[1]++;
        led[2] += found;
        led[4] += lookers.get(looker)[1];
        now = new Deed(now.bag, now.stones - found, z, now.looks + 1, led);
        return found;
    }

    int eat() {
        if (now.bag < 0) return -5;
        int[] led = now.led.clone();
        led[0]++;
        led[3] += now.stones;
        led[4] += now.stones * rest[3];
        int left = now.stones;
        now = new Deed(-1, 0, 0, 0, led);
        return left;
    }

    int led(int what) {
        if (what < 0 || what > 5) return -1;
        return what < 5 ? now.led[what] : now.bag < 0 ? -5 : now.looks;
    }

    int image() {
        image = now;
        return now.led[0];
    }

    int back() {
        if (image == null) return -5;
        now = image;
        return now.led[0];
    }

    // ---- shelves

    int body(int kind) {
        if (kind < 0 || kind > 7) return -1;
        if (bodies.size() == 50) return -3;
        bodies.add(kind);
        return bodies.size() - 1;
    }

    int keep(int shelf, int body) {
        if (shelf < 0 || shelf > 5 || body < -1 || body >= bodies.size()) return -1;
        shelves[shelf] = body < 0 ? null : bodies.get(body);
        return 1;
    }

    int row(int shelf, int sort, int n) {
        if (shelf < 0 || shelf > 5 || sort < 0 || sort > 4 || n > 60) return -1;
        if (n < 0) return -14;
        shelves[shelf] = new long[n];
        sorts[shelf] = sort;
        return 1;
    }

    int put(int shelf, int i, long v) {
        if (shelf < 0 || shelf > 5) return -1;
        if (shelves[shelf] == null) return -11;
        if (!(shelves[shelf] instanceof long[] row)) return -12;
        if (i < 0 || i >= row.length) return -13;
        int[] bits = {8, 16, 32, 64};
        row[i] = sorts[shelf] == 4 ? (v == 0 ? 0 : 1) : v << 64 - bits[sorts[shelf]] >> 64 - bits[sorts[shelf]];
        return 1;
    }

    long element(int shelf, int i) {
        if (shelf < 0 || shelf > 5 || !(shelves[shelf] instanceof long[] row) || i < 0 || i >= row.length) return NONE;
        return row[i];
    }

    int shift(int shelf, int i, int other, int j, int n) {
        if (shelf < 0 || shelf > 5 || other < 0 || other > 5) return -1;
        if (shelves[shelf] == null || shelves[other] == null) return -11;
        if (!(shelves[shelf] instanceof long[] from) || !(shelves[other] instanceof long[] to)) return -12;
        if (sorts[shelf] != sorts[other]) return -12;
        if (i < 0 || j < 0 || n < 0 || (long) i + n > from.length || (long) j + n > to.length) return -13;
        long[] before = from.clone();
        for (int k = 0; k < n; k++) to[j + k] = before[i + k];
        return n;
    }

    int taken(int shelf, int k) {
        if (shelf < 0 || shelf > 5 || k < 0 || k > 7) return -1;
        if (shelves[shelf] == null) return -11;
        if (!(shelves[shelf] instanceof Integer kind)) return -12;
        String[] under = {"0", "10", "20", "320", "410", "5320", "60", "760"};
        return under[kind].indexOf((char) ('0' + k)) >= 0 ? kind : -12;
    }

    int count(int what) {
        int[] counts = {lookers.size(), tape.length(), done.size(), bodies.size()};
        return what < 0 || what > 3 ? -1 : counts[what];
    }
}
