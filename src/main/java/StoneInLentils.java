/**
 * Bags of lentils with a few stones or none, and those who look for them.
 *
 * All rows are made once, by the constructor: a call makes no object, so that any run of calls
 * lives in the same small room. No call throws: each argument is looked at before it is used.
 */
public final class StoneInLentils {
    public static final int BAD = -1, NOT = -2, FULL = -3, STATE = -5, VOID = -2000000000;

    private static final int ABSENT = -11, OTHER_KIND = -12, NO_PLACE = -13, BELOW_ZERO = -14;
    private static final long NO_LONG = -9223372036854775808L;

    private static final int BAGS = 4, MOST_LOOKERS = 6, SHELVES = 6;
    private static final int MOST_STONES = 3, MOST_LOOKS = 4, TWELVE = 12, WASHING = 6;

    private final Numbers numbers = new Numbers();
    private final Law text = new Law();
    private final Shelf[] shelves = new Shelf[SHELVES];
    private final Looks looks = new Looks();
    private final Chances chances = new Chances();
    private final Planner planner = new Planner();
    private final Witness witness = new Witness();
    private final Parting parting = new Parting();
    private final Draws draws = new Draws();
    private final Deeds deeds = new Deeds();
    private final Deeds imaged = new Deeds();
    private boolean hasImage = false;
    private final Bodies bodies = new Bodies();

    public StoneInLentils() {
        for (int i = 0; i < SHELVES; i++) shelves[i] = new Shelf();
    }

    // ---- lookers, bags

    public int looker(int sc) {
        if (sc < 0 || !numbers.mayBe(Numbers.SEES, sc / 100)) return BAD;
        return numbers.addLooker(sc / 100, sc % 100);
    }

    public int lookers(int shelf, int i, int n) {
        if (!isShelf(shelf) || n < 1 || n > MOST_LOOKERS) return BAD;
        Shelf from = shelves[shelf];
        if (from.isEmpty()) return 0;
        if (!from.isBytes()) return OTHER_KIND;
        int came = 0;
        while (came < n && cameFrom(from, i, 2 * came)) came++;
        return came;
    }

    public int mend(int number, int what, int v) {
        int slot = numbers.slotOf(number, what);
        if (slot < 0 || !numbers.mayBe(what, v)) return BAD;
        return numbers.become(slot, v);
    }

    public int of(int number, int what) {
        return numbers.slotOf(number, what) < 0 ? BAD : numbers.get(number, what);
    }

    public int feed(int letter) {
        if (letter < 0 || letter > 255) return BAD;
        return text.isFull() ? FULL : text.add(letter);
    }

    public int law() {
        int fault = text.takeTape();
        return fault < 0 ? 1 : -100 - fault;
    }

    public int finds(int looker, int n) {
        if (!numbers.isLooker(looker) || n < 0 || n > 9) return BAD;
        return twelfths(looker, n);
    }

    // ---- looks in thought

    public long left(int shelf, int bag, int j, int part) {
        if (!isThinkable(shelf, bag) || j < 0 || j > MOST_STONES || !isPart(part)) return NO_LONG;
        int behind = think(shelf, bag);
        long all = chances.all(behind);
        return all == 0 ? NOT : inLowest(chances.at(behind, j), all, part);
    }

    public long mean(int shelf, int bag, int what, int part) {
        if (!isThinkable(shelf, bag) || what < 0 || what > 2 || !isPart(part)) return NO_LONG;
        int behind = think(shelf, bag);
        long all = chances.all(behind);
        if (what == 2) return inLowest(all, chances.allAhead(behind), part);
        if (all == 0) return NOT;
        return inLowest(what == 0 ? chances.stones(behind) : chances.at(behind, 0), all, part);
    }

    public long worth(int shelf, int by, int part) {
        if (by < 0 || !isThinkable(shelf, by / 10) || !isPart(part)) return NO_LONG;
        int who = by % 10;
        if (who != WASHING && !numbers.isLooker(who)) return NO_LONG;
        int behind = think(shelf, by / 10);
        long all = chances.all(behind);
        return all == 0 ? NOT : inLowest(gain(who, behind), TWELVE * all, part);
    }

    public int next(int shelf, int bag) {
        if (!isShelf(shelf) || !isBag(bag)) return BAD;
        int refusal = shelves[shelf].refusalAsBytes();
        if (refusal < 0) return refusal;
        int behind = think(shelf, bag);
        int best = NOT;
        long most = 0;
        for (int who = 0; who <= WASHING; who++) {
            if (who != WASHING && !numbers.isLooker(who)) continue;
            long gained = gain(who, behind);
            if (gained > most) {
                most = gained;
                best = who;
            }
        }
        return best;
    }

    public long plan(int bag, int m, int part) {
        if (!isBag(bag) || m < 0 || m > 3 || part < 0 || part > 2) return NO_LONG;
        tellPlanner();
        long least = leastFor(bag, m);
        return part == 2 ? planner.first : inLowest(least, planner.chances.allAhead(m), part);
    }

    public long buy(int part) {
        if (part < 0 || part > 2) return NO_LONG;
        tellPlanner();
        int which = 0;
        long least = 0;
        long weights = 1;
        for (int bag = 0; bag < BAGS; bag++) {
            long planned = leastFor(bag, 2);
            long own = planner.chances.all(0);
            long paid = planned + numbers.get(bag, Numbers.PRICE) * planner.chances.allAhead(2);
            // both are behind two looks, so that the WEIGHTS alone part what they are divided by
            if (bag == 0 || paid * weights < least * own) {
                which = bag;
                least = paid;
                weights = own;
            }
        }
        return part == 2 ? which : inLowest(least, weights * Chances.CUBE * Chances.CUBE, part);
    }

    // ---- two lists, stones put in, handfuls, heaps

    public long lists(int abc, int what, int part) {
        if (!areLists(abc) || what < 0 || what > 1 || !isPart(part)) return NO_LONG;
        int a = abc / 10000;
        int b = abc / 100 % 100;
        int c = abc % 100;
        if (c == 0) return NOT;
        return what == 0 ? inLowest(a * b, c, part) : inLowest((a - c) * (b - c), c, part);
    }

    public int likeliest(int abc) {
        if (!areLists(abc)) return BAD;
        int a = abc / 10000;
        int b = abc / 100 % 100;
        int c = abc % 100;
        int n = a + b - c;
        // lists out of n + 1 are likelier than out of n just if (n + 1) c is less than a b
        while (n < 60 && (n + 1) * c < a * b) n++;
        return n;
    }

    public int seesFor(int mf) {
        return isPutIn(mf) ? likeliestTwelfths(mf / 100, mf % 100) : BAD;
    }

    public long besides(int mf, int g, int part) {
        if (!isPutIn(mf) || g < 0 || g > 99 || !isPart(part)) return NO_LONG;
        int sees = likeliestTwelfths(mf / 100, mf % 100);
        return sees == 0 ? NOT : inLowest(g * TWELVE, sees, part);
    }

    public long handful(int bag, int nh, int what, int part) {
        if (!isBag(bag) || nh < 0 || what < 0 || what > 1 || !isPart(part)) return NO_LONG;
        int n = nh / 100;
        int h = nh % 100;
        if (n < 1 || n > 60 || h > n) return NO_LONG;
        int most = Math.min(n, MOST_STONES);
        long weights = 0;
        long without = 0;
        for (int j = 0; j <= most; j++) {
            long weight = numbers.get(bag, j);
            weights += weight;
            without += weight * falling(n - h, 0, j) * falling(n, j, most);
        }
        long ways = falling(n, 0, most);
        long noStone = numbers.get(bag, 0) * ways;
        if (weights == 0) {
            weights = 1;
            without = ways;
            noStone = ways;
        }
        if (what == 0) return inLowest(without, weights * ways, part);
        return without == 0 ? NOT : inLowest(noStone, without, part);
    }

    public int heaps(int n, int m, int what) {
        if (n < 1 || n > Parting.MOST_HEAPS || m < 0 || m > 999) return BAD;
        if (what < 0 || what > 1 && !numbers.isLooker(what - 2)) return BAD;
        if (numbers.lookers > Parting.MOST_PARTS) return STATE;
        for (int who = 0; who < numbers.lookers; who++) fillParting(who, n);
        parting.search(n, m);
        return what == 0 ? parting.twelfths : what == 1 ? parting.cost : parting.heapsOf(what - 2);
    }

    // ---- told looks, draws

    public int who(int shelf, int bag, int what, int k) {
        if (!isShelf(shelf) || !isBag(bag) || what < 0 || what > 2) return BAD;
        if (what > 0 && (k < 0 || k >= MOST_LOOKS)) return BAD;
        int refusal = shelves[shelf].refusalAsBytes();
        if (refusal < 0) return refusal;
        fillShares(witness.shares);
        witness.chances.begin(numbers, bag);
        witness.hear(shelves[shelf], numbers.lookers);
        if (what == 0) return witness.rows;
        return what == 1 ? witness.sureBy(k) : witness.most(k);
    }

    public int drawn(int shelf, int seed, int bn, int what) {
        if (!isShelf(shelf) || bn < 0 || !isBag(bn / 100)) return BAD;
        int n = bn % 100;
        if (n < 1 || n > 30 || what < 0 || what > 1) return BAD;
        int refusal = shelves[shelf].refusalAsBytes();
        if (refusal < 0) return refusal;
        looks.read(shelves[shelf], numbers.lookers, true);
        draws.z = seed;
        int still = 0;
        for (int i = 0; i < n; i++) still += stillInOneMore(bn / 100);
        if (what == 0) return still;
        int cost = 0;
        for (int i = 0; i < looks.size; i++) cost += numbers.get(looks.by(i), Numbers.COST);
        return n * cost + still * numbers.get(0, Numbers.TOOTH);
    }

    // ---- in deed

    public int open(int bag, int seed) {
        if (!isBag(bag)) return BAD;
        if (deeds.isOpen) return STATE;
        draws.z = seed;
        deeds.begin(draws.stones(numbers, bag), draws.z);
        return bag;
    }

    public int look(int looker) {
        if (!numbers.isLooker(looker)) return BAD;
        if (!deeds.isOpen) return STATE;
        draws.z = deeds.z;
        int found = draws.found(deeds.stones, twelfths(looker, deeds.looksOfOpen));
        deeds.addLook(found, numbers.get(looker, Numbers.COST), draws.z);
        return found;
    }

    public int eat() {
        return deeds.isOpen ? deeds.end(numbers.get(0, Numbers.TOOTH)) : STATE;
    }

    public int led(int what) {
        switch (what) {
            case 0: return deeds.eaten;
            case 1: return deeds.looks;
            case 2: return deeds.found;
            case 3: return deeds.missed;
            case 4: return deeds.costs;
            case 5: return deeds.isOpen ? deeds.looksOfOpen : STATE;
            default: return BAD;
        }
    }

    public int image() {
        imaged.become(deeds);
        hasImage = true;
        return deeds.eaten;
    }

    public int back() {
        if (!hasImage) return STATE;
        deeds.become(imaged);
        return deeds.eaten;
    }

    public int undo() {
        return numbers.done == 0 ? STATE : numbers.stepBack();
    }

    public int redo() {
        return numbers.done == numbers.kept ? STATE : numbers.stepOn();
    }

    // ---- acts, shelves

    public int body(int kind) {
        return Bodies.isKind(kind) ? bodies.add(kind) : BAD;
    }

    public int act(int body, int act, int x) {
        bodies.forget();
        if (!bodies.has(body) || act < 0 || act >= Bodies.ACTS) return 0;
        return bodies.perform(body, act, x);
    }

    public int trace(int i) {
        return i < 0 || i >= Math.min(bodies.ran, Bodies.MOST_TRACED) ? BAD : bodies.traced(i);
    }

    public int keep(int shelf, int body) {
        if (!isShelf(shelf) || body != -1 && !bodies.has(body)) return BAD;
        if (body == -1) shelves[shelf].holdNothing();
        else shelves[shelf].holdBody(body);
        return 1;
    }

    public int row(int shelf, int sort, int n) {
        if (!isShelf(shelf) || sort < 0 || sort > Shelf.BOOLEANS || n > Shelf.LONGEST) return BAD;
        if (n < 0) return BELOW_ZERO;
        shelves[shelf].holdRow(sort, n);
        return 1;
    }

    public int put(int shelf, int i, long v) {
        if (!isShelf(shelf)) return BAD;
        Shelf to = shelves[shelf];
        if (to.isEmpty()) return ABSENT;
        if (!to.isRow()) return OTHER_KIND;
        if (!to.hasPlace(i)) return NO_PLACE;
        to.write(i, v);
        return 1;
    }

    public long element(int shelf, int i) {
        if (!isShelf(shelf) || !shelves[shelf].isRow() || !shelves[shelf].hasPlace(i)) return NO_LONG;
        return shelves[shelf].read(i);
    }

    public int shift(int shelf, int i, int other, int j, int n) {
        if (!isShelf(shelf) || !isShelf(other)) return BAD;
        Shelf from = shelves[shelf];
        Shelf to = shelves[other];
        if (from.isEmpty() || to.isEmpty()) return ABSENT;
        if (!from.isRow() || !to.isRow() || from.sort != to.sort) return OTHER_KIND;
        if (!from.hasPlaces(i, n) || !to.hasPlaces(j, n)) return NO_PLACE;
        from.copyTo(i, to, j, n);
        return n;
    }

    public int taken(int shelf, int k) {
        if (!isShelf(shelf) || !Bodies.isKind(k)) return BAD;
        Shelf from = shelves[shelf];
        if (from.isEmpty()) return ABSENT;
        if (from.isRow()) return OTHER_KIND;
        int kind = bodies.kindOf(from.body);
        return Bodies.isUnder(kind, k) ? kind : OTHER_KIND;
    }

    public int count(int what) {
        switch (what) {
            case 0: return numbers.lookers;
            case 1: return text.fed;
            case 2: return numbers.done;
            case 3: return bodies.size;
            case 4: return bodies.ran;
            default: return BAD;
        }
    }

    // ---- what the calls share

    private static boolean isShelf(int shelf) {
        return shelf >= 0 && shelf < SHELVES;
    }

    private static boolean isBag(int bag) {
        return bag >= 0 && bag < BAGS;
    }

    private static boolean isPart(int part) {
        return part == 0 || part == 1;
    }

    private boolean isThinkable(int shelf, int bag) {
        return isShelf(shelf) && isBag(bag) && shelves[shelf].isBytes();
    }

    private static boolean areLists(int abc) {
        if (abc < 0) return false;
        int a = abc / 10000;
        int b = abc / 100 % 100;
        int c = abc % 100;
        return a <= 20 && b <= 20 && c <= Math.min(a, b);
    }

    private static boolean isPutIn(int mf) {
        return mf >= 100 && mf / 100 <= 20 && mf % 100 <= mf / 100;
    }

    /** Part 0 (above) or 1 (below the line) of a fraction whose lower number is above 0. */
    private static long inLowest(long above, long below, int part) {
        long like = Math.abs(above);
        long rest = below;
        // no two longs take as many as 100 steps
        for (int step = 0; step < 100 && rest != 0; step++) {
            long over = like % rest;
            like = rest;
            rest = over;
        }
        if (like == 0) return part;
        return part == 0 ? above / like : below / like;
    }

    /** (n - from) (n - from - 1) .. down to (n - to + 1). */
    private static long falling(int n, int from, int to) {
        long ways = 1;
        for (int i = from; i < to; i++) ways *= n - i;
        return ways;
    }

    private static int likeliestTwelfths(int m, int f) {
        int best = 0;
        for (int p = 1; p <= TWELVE; p++) {
            if (isLikelier(p, best, m, f)) best = p;
        }
        return best;
    }

    /** Whether f found of m is likelier by p twelfths than by q. */
    private static boolean isLikelier(int p, int q, int m, int f) {
        long highP = limbOf(p, m, f, true);
        long highQ = limbOf(q, m, f, true);
        return highP > highQ || highP == highQ && limbOf(p, m, f, false) > limbOf(q, m, f, false);
    }

    /** p^f (12 - p)^(m - f): up to 12^20, more than a long holds, so it stands in two limbs of base 2^40. */
    private static long limbOf(int p, int m, int f, boolean isHigh) {
        long base = 1L << 40;
        long high = 0;
        long low = 1;
        for (int i = 0; i < m; i++) {
            int by = i < f ? p : TWELVE - p;
            low *= by;
            high = high * by + low / base;
            low %= base;
        }
        return isHigh ? high : low;
    }

    private boolean cameFrom(Shelf from, int start, int on) {
        if (numbers.lookers == MOST_LOOKERS || !from.hasPlace(start)) return false;
        int place = start + on;
        if (!from.hasPlaces(place, 2)) return false;
        int sees = (int) from.read(place);
        int cost = (int) from.read(place + 1);
        if (!numbers.mayBe(Numbers.SEES, sees) || !numbers.mayBe(Numbers.COST, cost)) return false;
        numbers.addLooker(sees, cost);
        return true;
    }

    private int twelfths(int looker, int ahead) {
        return twelfthsIn(looker, ahead, numbers.get(0, Numbers.THICK));
    }

    private int twelfthsIn(int looker, int ahead, int thick) {
        int sees = numbers.get(looker, Numbers.SEES);
        int talk = numbers.get(0, Numbers.TALK);
        int lamp = numbers.get(0, Numbers.LAMP);
        int told = text.isTold() ? text.workOut(sees, talk, lamp, thick, ahead, looker) : sees - talk - thick + 1;
        return Math.max(0, Math.min(TWELVE, told));
    }

    /** By the LOOKER and how many looks were ahead: THE LAW is worked out once, not at each choice. */
    private void fillShares(int[] shares) {
        for (int who = 0; who < numbers.lookers; who++) {
            for (int ahead = 0; ahead < MOST_LOOKS; ahead++) {
                int place = who * MOST_LOOKS + ahead;
                if (place < shares.length) shares[place] = twelfths(who, ahead);
            }
        }
    }

    private void tellPlanner() {
        fillShares(planner.shares);
        planner.lookers = numbers.lookers;
        planner.tooth = numbers.get(0, Numbers.TOOTH);
        for (int who = 0; who < MOST_LOOKERS; who++) planner.costs[who] = numbers.get(who, Numbers.COST);
    }

    private long leastFor(int bag, int m) {
        planner.chances.begin(numbers, bag);
        return planner.leastOf(m);
    }

    private void fillParting(int who, int n) {
        int thick = numbers.get(0, Numbers.THICK);
        int share = 0;
        for (int heap = 0; heap <= n; heap++) {
            if (heap % 5 == 0) share = twelfthsIn(who, 0, thick + heap / 5);
            parting.tell(who, heap, heap * share);
        }
        parting.add(who, n, numbers.get(who, Numbers.COST));
    }

    /** Goes through the looks of a ROW: how many they are. */
    private int think(int shelf, int bag) {
        looks.read(shelves[shelf], numbers.lookers, false);
        chances.begin(numbers, bag);
        for (int i = 0; i < looks.size; i++) {
            chances.step(i, twelfths(looks.by(i), i), looks.found(i));
        }
        return looks.size;
    }

    /** What one more look is WORTH, times twelve times all that is as likely as the ROW. */
    private long gain(int who, int behind) {
        int share = who == WASHING ? numbers.get(0, Numbers.WASH) : twelfths(who, behind);
        int cost = who == WASHING ? 1 : numbers.get(who, Numbers.COST);
        // at most 999 by 12 by 54 by 12^12: it stays below 2^63
        return numbers.get(0, Numbers.TOOTH) * share * chances.stones(behind) - TWELVE * cost * chances.all(behind);
    }

    /** Draws one more BAG and looks through it by the ROW that was read: STONES left in it. */
    private int stillInOneMore(int bag) {
        int still = draws.stones(numbers, bag);
        for (int i = 0; i < looks.size; i++) still -= draws.found(still, twelfths(looks.by(i), i));
        return still;
    }

    /** The numbers that mend() tells, who came to look, and the changes that can be undone. */
    private static final class Numbers {
        static final int PRICE = 4, SEES = 5, COST = 6, TALK = 7, LAMP = 8, THICK = 9, TOOTH = 10, WASH = 11;
        private static final int OF_BAG = 5, LOOKERS_FROM = 20, REST_FROM = 32, SLOTS = 37, MOST_KEPT = 40;
        private static final int[] LEAST = {0, 0, 0, 0, 0, 0, 0, 0, 0, 1, 0, 0};
        private static final int[] GREATEST = {9, 9, 9, 9, 99, 12, 99, 9, 9, 9, 999, 12};

        private final int[] values = new int[SLOTS];
        int lookers = 0;
        private final int[] slots = new int[MOST_KEPT];
        private final int[] befores = new int[MOST_KEPT];
        private final int[] afters = new int[MOST_KEPT];
        int done = 0;
        int kept = 0;

        Numbers() {
            for (int i = 0; i < LOOKERS_FROM; i++) values[i] = i % OF_BAG == PRICE ? 10 : 1;
            values[REST_FROM + LAMP - TALK] = 5;
            values[REST_FROM + THICK - TALK] = 1;
            values[REST_FROM + TOOTH - TALK] = 100;
            values[REST_FROM + WASH - TALK] = 4;
        }

        boolean isLooker(int number) {
            return number >= 0 && number < lookers;
        }

        boolean mayBe(int what, int v) {
            return what >= 0 && what <= WASH && v >= LEAST[what] && v <= GREATEST[what];
        }

        /** Where a number stands; -1: there is none such. */
        int slotOf(int number, int what) {
            if (what < 0 || what > WASH) return -1;
            if (what <= PRICE) return isBag(number) ? number * OF_BAG + what : -1;
            if (what <= COST) return isLooker(number) ? LOOKERS_FROM + 2 * number + what - SEES : -1;
            return number == 0 ? REST_FROM + what - TALK : -1;
        }

        int get(int number, int what) {
            int slot = slotOf(number, what);
            return slot < 0 ? 0 : values[slot];
        }

        int addLooker(int sees, int cost) {
            if (lookers == MOST_LOOKERS) return FULL;
            values[LOOKERS_FROM + 2 * lookers] = sees;
            values[LOOKERS_FROM + 2 * lookers + 1] = cost;
            lookers++;
            return lookers - 1;
        }

        int become(int slot, int v) {
            if (slot < 0 || slot >= SLOTS) return BAD;
            int before = values[slot];
            if (before != v) {
                dropOldest();
                slots[done] = slot;
                befores[done] = before;
                afters[done] = v;
                done++;
                kept = done;
                values[slot] = v;
            }
            return before;
        }

        private void dropOldest() {
            if (done < MOST_KEPT) return;
            System.arraycopy(slots, 1, slots, 0, MOST_KEPT - 1);
            System.arraycopy(befores, 1, befores, 0, MOST_KEPT - 1);
            System.arraycopy(afters, 1, afters, 0, MOST_KEPT - 1);
            done = MOST_KEPT - 1;
        }

        int stepBack() {
            if (done > 0) {
                done--;
                values[slots[done]] = befores[done];
            }
            return done;
        }

        int stepOn() {
            if (done < kept) {
                values[slots[done]] = afters[done];
                done++;
            }
            return kept - done;
        }
    }

    /** THE TAPE and THE LAW: the text is read once and kept as a row of steps over a stack. */
    private static final class Law {
        private static final int LONGEST = 120, DEEPEST = 6, MOST_DIGITS = 4;
        private static final int COMPARING = 2, OPERAND = 5;
        /** Steps are written as their sign with 256 times a value; these have no sign of their own in a text. */
        private static final int NUMBER = '#', NAME = '$', NEGATE = '~', INVERT = '!', UNLESS = '?', END = ';';

        private final int[] tape = new int[LONGEST];
        int fed = 0;
        private int at = 0;
        private final int[] draft = new int[LONGEST + 8];
        private int written = 0;
        private final int[] steps = new int[LONGEST + 8];
        private int size = 0;
        private final int[] names = new int[6];
        // each of seven nested E leaves at most five values waiting
        private final int[] stack = new int[64];
        private int top = 0;

        boolean isFull() {
            return fed == LONGEST;
        }

        boolean isTold() {
            return size > 0;
        }

        int add(int letter) {
            if (fed < LONGEST) {
                tape[fed] = letter;
                fed++;
            }
            return fed;
        }

        /** Empties THE TAPE; its FAULT, or -1 if it became THE LAW. */
        int takeTape() {
            at = 0;
            written = 0;
            boolean isText = readLines();
            fed = 0;
            if (!isText) return at;
            System.arraycopy(draft, 0, steps, 0, written);
            size = written;
            return -1;
        }

        // each of these stops with `at` on the byte with which no TEXT goes on, if it answers false

        private boolean readLines() {
            for (int line = 0; line <= LONGEST; line++) {
                if (!readLine()) return false;
                if (at == fed) return true;
                if (!passed(';')) return false;
            }
            return false;
        }

        private boolean readLine() {
            if (!readLevel(0, 0)) return false;
            if (passed('?')) {
                int gate = written;
                write(UNLESS, 0);
                if (!readLevel(0, 0)) return false;
                write(END, 0);
                if (gate < draft.length) draft[gate] = UNLESS + 256 * written;
            } else {
                write(END, 0);
            }
            return true;
        }

        private boolean readLevel(int level, int open) {
            if (level == OPERAND) return readOperand(open);
            if (!readLevel(level + 1, open)) return false;
            int most = level == COMPARING ? 1 : LONGEST;
            for (int i = 0; i < most && levelOf(letter()) == level; i++) {
                int sign = letter();
                at++;
                if (!readLevel(level + 1, open)) return false;
                write(sign, 0);
            }
            return true;
        }

        private boolean readOperand(int open) {
            int sign = letter();
            if (isDigit(sign)) return readNumber();
            if (nameOf(sign) >= 0) {
                at++;
                write(NAME, nameOf(sign));
                return true;
            }
            if (sign != '(' && sign != '!' && sign != '-' || open == DEEPEST) return false;
            at++;
            if (sign == '(') return readLevel(0, open + 1) && passed(')');
            if (!readOperand(open + 1)) return false;
            write(sign == '!' ? INVERT : NEGATE, 0);
            return true;
        }

        private boolean readNumber() {
            int value = 0;
            for (int i = 0; i < MOST_DIGITS && isDigit(letter()); i++) {
                value = value * 10 + letter() - '0';
                at++;
            }
            write(NUMBER, value);
            return true;
        }

        private int letter() {
            return at < fed ? tape[at] : -1;
        }

        private boolean passed(int sign) {
            if (letter() != sign) return false;
            at++;
            return true;
        }

        private void write(int sign, int value) {
            if (written < draft.length) {
                draft[written] = sign + 256 * value;
                written++;
            }
        }

        private static boolean isDigit(int sign) {
            return sign >= '0' && sign <= '9';
        }

        private static int nameOf(int sign) {
            switch (sign) {
                case 's': return 0;
                case 't': return 1;
                case 'l': return 2;
                case 'h': return 3;
                case 'n': return 4;
                case 'k': return 5;
                default: return -1;
            }
        }

        private static int levelOf(int sign) {
            switch (sign) {
                case '|': return 0;
                case '&': return 1;
                case '<': case '=': case '>': return COMPARING;
                case '+': case '-': return 3;
                case '*': case '/': case '%': return 4;
                default: return -1;
            }
        }

        int workOut(int s, int t, int l, int h, int n, int k) {
            names[0] = s;
            names[1] = t;
            names[2] = l;
            names[3] = h;
            names[4] = n;
            names[5] = k;
            top = 0;
            int place = 0;
            for (int i = 0; i < size && place < size; i++) {
                int sign = steps[place] % 256;
                int value = steps[place] / 256;
                place++;
                if (sign == END) return pop();
                if (sign != UNLESS) run(sign, value);
                else if (pop() == 0) place = value;
            }
            return 0;
        }

        private void run(int sign, int value) {
            if (sign == NUMBER) push(value);
            else if (sign == NAME) push(value < names.length ? names[value] : 0);
            else if (sign == NEGATE) push(-pop());
            else if (sign == INVERT) push(pop() == 0 ? 1 : 0);
            else {
                int right = pop();
                push(joined(sign, pop(), right));
            }
        }

        private static int joined(int sign, int a, int b) {
            switch (sign) {
                case '|': return a != 0 || b != 0 ? 1 : 0;
                case '&': return a != 0 && b != 0 ? 1 : 0;
                case '<': return a < b ? 1 : 0;
                case '=': return a == b ? 1 : 0;
                case '>': return a > b ? 1 : 0;
                case '+': return a + b;
                case '-': return a - b;
                case '*': return a * b;
                case '/': return b == 0 ? 0 : a / b;
                case '%': return b == 0 ? 0 : a % b;
                default: return 0;
            }
        }

        private void push(int v) {
            if (top < stack.length) {
                stack[top] = v;
                top++;
            }
        }

        private int pop() {
            if (top == 0) return 0;
            top--;
            return stack[top];
        }
    }

    /** What a SHELF holds. A ROW's elements stand in longs, cut to their sort when they are put in. */
    private static final class Shelf {
        static final int BYTES = 0, SHORTS = 1, INTS = 2, BOOLEANS = 4, LONGEST = 60;
        private static final int NOTHING = 0, A_BODY = 1, A_ROW = 2;

        private int holds = NOTHING;
        int body = -1;
        int sort = BYTES;
        int size = 0;
        private final long[] elements = new long[LONGEST];

        boolean isEmpty() {
            return holds == NOTHING;
        }

        boolean isRow() {
            return holds == A_ROW;
        }

        boolean isBytes() {
            return holds == A_ROW && sort == BYTES;
        }

        int refusalAsBytes() {
            return isEmpty() ? ABSENT : isBytes() ? 0 : OTHER_KIND;
        }

        boolean hasPlace(int i) {
            return i >= 0 && i < size;
        }

        boolean hasPlaces(int i, int n) {
            return i >= 0 && n >= 0 && n <= size && i <= size - n;
        }

        void holdNothing() {
            holds = NOTHING;
        }

        void holdBody(int number) {
            holds = A_BODY;
            body = number;
        }

        void holdRow(int ofSort, int n) {
            if (n < 0 || n > LONGEST) return;
            holds = A_ROW;
            sort = ofSort;
            size = n;
            for (int i = 0; i < LONGEST; i++) elements[i] = 0;
        }

        long read(int i) {
            return hasPlace(i) ? elements[i] : 0;
        }

        void write(int i, long v) {
            if (hasPlace(i)) elements[i] = cut(v);
        }

        private long cut(long v) {
            switch (sort) {
                case BYTES: return (byte) v;
                case SHORTS: return (short) v;
                case INTS: return (int) v;
                case BOOLEANS: return v != 0 ? 1 : 0;
                default: return v;
            }
        }

        void copyTo(int i, Shelf to, int j, int n) {
            if (hasPlaces(i, n) && to.hasPlaces(j, n)) System.arraycopy(elements, i, to.elements, j, n);
        }
    }

    /** A LOOK row, as it was read. */
    private static final class Looks {
        private final int[] lookers = new int[MOST_LOOKS];
        private final int[] founds = new int[MOST_LOOKS];
        int size = 0;

        /** Whether a FOUND may be anything is for those who go by the LOOKERS alone. */
        void read(Shelf from, int isThere, boolean foundAsMayBe) {
            size = 0;
            while (size < MOST_LOOKS && readTwo(from, isThere, foundAsMayBe)) size++;
        }

        private boolean readTwo(Shelf from, int isThere, boolean foundAsMayBe) {
            if (!from.hasPlaces(2 * size, 2)) return false;
            long looker = from.read(2 * size);
            long found = from.read(2 * size + 1);
            if (looker < 0 || looker >= isThere || !foundAsMayBe && !isFound(found)) return false;
            lookers[size] = (int) looker;
            founds[size] = (int) found;
            return true;
        }

        static boolean isFound(long found) {
            return found >= 0 && found <= MOST_STONES;
        }

        int by(int i) {
            return i >= 0 && i < size ? lookers[i] : 0;
        }

        int found(int i) {
            return i >= 0 && i < size ? founds[i] : 0;
        }
    }

    /**
     * How likely 0 .. 3 STONES are in behind 0 .. 4 looks, in whole numbers: WEIGHTS at first, and
     * each look multiplies all of them by 12^3. So 36 by 12^12 is the most, and nothing is rounded.
     */
    private static final class Chances {
        static final long CUBE = 1728;
        private static final int KINDS = MOST_STONES + 1;
        /** By n and k, how many ways there are to choose k of n. */
        private static final int[] CHOOSE = {1, 0, 0, 0, 1, 1, 0, 0, 1, 2, 1, 0, 1, 3, 3, 1};

        private final long[] weights = new long[(MOST_LOOKS + 1) * KINDS];

        void begin(Numbers numbers, int bag) {
            for (int j = 0; j < KINDS; j++) weights[j] = numbers.get(bag, j);
            if (all(0) == 0) weights[0] = 1;
        }

        /** From behind so many looks to behind one more, which has found so many by so many twelfths. */
        void step(int behind, int share, int found) {
            if (behind < 0 || behind >= MOST_LOOKS) return;
            int from = behind * KINDS;
            int to = from + KINDS;
            for (int j = 0; j < KINDS; j++) weights[to + j] = 0;
            if (found < 0) return;
            for (int j = 0; j + found < KINDS; j++) {
                int were = j + found;
                long ways = CHOOSE[were * KINDS + found] * power(share, found) * power(TWELVE - share, j);
                weights[to + j] = weights[from + were] * ways * power(TWELVE, MOST_STONES - were);
            }
        }

        private static long power(int base, int times) {
            long result = 1;
            for (int i = 0; i < times; i++) result *= base;
            return result;
        }

        private static boolean isLevel(int behind) {
            return behind >= 0 && behind <= MOST_LOOKS;
        }

        long at(int behind, int j) {
            return isLevel(behind) && j >= 0 && j < KINDS ? weights[behind * KINDS + j] : 0;
        }

        long all(int behind) {
            if (!isLevel(behind)) return 0;
            int from = behind * KINDS;
            return weights[from] + weights[from + 1] + weights[from + 2] + weights[from + 3];
        }

        /** What all() would be behind so many looks whatever they found. */
        long allAhead(int behind) {
            long ahead = all(0);
            for (int i = 0; i < behind; i++) ahead *= CUBE;
            return ahead;
        }

        /** STONES left on the mean, times all(). */
        long stones(int behind) {
            if (!isLevel(behind)) return 0;
            int from = behind * KINDS;
            return weights[from + 1] + 2 * weights[from + 2] + 3 * weights[from + 3];
        }
    }

    /** The least cost on the mean of a few looks, each chosen by what was found ahead of it. */
    private static final class Planner {
        private static final int MOST = 3;
        private static final long[] CUBES = {1, 1728, 2985984, 5159780352L};

        final Chances chances = new Chances();
        final int[] shares = new int[MOST_LOOKERS * MOST_LOOKS];
        final int[] costs = new int[MOST_LOOKERS];
        int lookers = 0;
        int tooth = 0;
        int first = NOT;

        /** The cost times chances.allAhead(looks); `first` is who looks first. */
        long leastOf(int looks) {
            first = NOT;
            return least(0, Math.max(0, Math.min(MOST, looks)));
        }

        private long least(int behind, int looks) {
            if (looks < 0 || looks > MOST) return 0;
            long least = tooth * chances.stones(behind) * CUBES[looks];
            if (looks == 0 || behind >= MOST) return least;
            for (int who = 0; who < lookers && who < MOST_LOOKERS; who++) {
                long cost = leastBy(who, behind, looks);
                if (cost < least) {
                    least = cost;
                    if (behind == 0) first = who;
                }
            }
            return least;
        }

        private long leastBy(int who, int behind, int looks) {
            int share = shares[who * MOST_LOOKS + behind];
            long cost = costs[who] * chances.all(behind) * CUBES[looks];
            if (looks == 1) {
                // nothing is chosen behind the last look, so what it finds need not be told apart
                long still = chances.stones(behind) * (TWELVE - share) * (TWELVE * TWELVE);
                return cost + tooth * still;
            }
            for (int found = 0; found <= MOST_STONES; found++) {
                chances.step(behind, share, found);
                // where no STONE can be left, to stop costs nothing
                if (chances.stones(behind + 1) > 0) cost += least(behind + 1, looks - 1);
            }
            return cost;
        }
    }

    /** Which rows of LOOKERS can have found what was told. */
    private static final class Witness {
        final Chances chances = new Chances();
        final int[] shares = new int[MOST_LOOKERS * MOST_LOOKS];
        private final int[] founds = new int[MOST_LOOKS];
        private final int[] looking = new int[MOST_LOOKS];
        private final int[] seen = new int[MOST_LOOKS];
        private final int[] best = new int[MOST_LOOKS];
        private int told = 0;
        private int lookers = 0;
        int rows = 0;
        private long greatest = 0;

        void hear(Shelf from, int isThere) {
            told = 0;
            lookers = isThere;
            rows = 0;
            greatest = 0;
            while (told < MOST_LOOKS && hearOne(from)) told++;
            goOn(0);
        }

        /** A byte that is no FOUND is no look, and what stands behind it is not told either. */
        private boolean hearOne(Shelf from) {
            if (!from.hasPlace(told) || !Looks.isFound(from.read(told))) return false;
            founds[told] = (int) from.read(told);
            seen[told] = 0;
            return true;
        }

        private void goOn(int behind) {
            if (behind >= told) {
                note();
                return;
            }
            for (int who = 0; who < lookers && who < MOST_LOOKERS; who++) {
                looking[behind] = who;
                if (canHaveFound(who, behind)) goOn(behind + 1);
            }
        }

        private boolean canHaveFound(int who, int behind) {
            chances.step(behind, shares[who * MOST_LOOKS + behind], founds[behind]);
            return chances.all(behind + 1) > 0;
        }

        private void note() {
            rows++;
            for (int i = 0; i < told; i++) seen[i] |= 1 << looking[i];
            long likely = chances.all(told);
            if (likely <= greatest) return;
            greatest = likely;
            System.arraycopy(looking, 0, best, 0, told);
        }

        int sureBy(int k) {
            if (k < 0 || k >= told) return BAD;
            return Integer.bitCount(seen[k]) == 1 ? seen[k] : 0;
        }

        int most(int k) {
            if (k < 0 || k >= told) return BAD;
            return rows == 0 ? NOT : best[k];
        }
    }

    /** How the heaps of a BAG are parted among three LOOKERS at most. */
    private static final class Parting {
        static final int MOST_HEAPS = 40, MOST_PARTS = 3;

        /** By the LOOKER and its heaps, the twelfths it looks; what is not told is 0. */
        private final int[] looked = new int[MOST_PARTS * (MOST_HEAPS + 1)];
        private final int[] most = new int[MOST_PARTS];
        private final int[] costs = new int[MOST_PARTS];
        private final int[] best = new int[MOST_PARTS];
        int twelfths = 0;
        int cost = 0;

        void add(int who, int heaps, int costOfOne) {
            if (who < 0 || who >= MOST_PARTS) return;
            most[who] = Math.min(heaps, MOST_HEAPS);
            costs[who] = costOfOne;
        }

        void tell(int who, int heaps, int looks) {
            if (who < 0 || who >= MOST_PARTS || heaps < 0 || heaps > MOST_HEAPS) return;
            looked[who * (MOST_HEAPS + 1) + heaps] = looks;
        }

        /** Rows are tried with fewest heaps for LOOKER 0 first, then 1: of like ones the first stays. */
        void search(int n, int m) {
            twelfths = -1;
            cost = 0;
            for (int a = 0; a <= Math.min(n, most[0]); a++) {
                for (int b = 0; b <= Math.min(n - a, most[1]); b++) {
                    for (int c = 0; c <= Math.min(n - a - b, most[2]); c++) weigh(a, b, c, m);
                }
            }
        }

        private void weigh(int a, int b, int c, int m) {
            int paid = a * costs[0] + b * costs[1] + c * costs[2];
            if (paid > m) return;
            int seen = looked[a] + looked[MOST_HEAPS + 1 + b] + looked[2 * (MOST_HEAPS + 1) + c];
            if (seen < twelfths || seen == twelfths && paid >= cost) return;
            twelfths = seen;
            cost = paid;
            best[0] = a;
            best[1] = b;
            best[2] = c;
        }

        int heapsOf(int who) {
            return who >= 0 && who < MOST_PARTS ? best[who] : BAD;
        }
    }

    /** Draws by a SEED. */
    private static final class Draws {
        int z = 0;

        private int draw(int among) {
            z = z * 1103515245 + 12345;
            return among <= 0 ? 0 : (z >>> 8) % among;
        }

        int stones(Numbers numbers, int bag) {
            int all = 0;
            for (int j = 0; j <= MOST_STONES; j++) all += numbers.get(bag, j);
            if (all == 0) return 0;
            int over = draw(all);
            for (int j = 0; j < MOST_STONES; j++) {
                over -= numbers.get(bag, j);
                if (over < 0) return j;
            }
            return MOST_STONES;
        }

        int found(int stones, int share) {
            int found = 0;
            for (int i = 0; i < stones; i++) {
                if (draw(TWELVE) < share) found++;
            }
            return found;
        }
    }

    /** The BAG that is open, and what is LED: all that AN IMAGE keeps. */
    private static final class Deeds {
        boolean isOpen = false;
        int stones = 0;
        int z = 0;
        int looksOfOpen = 0;
        int eaten = 0;
        int looks = 0;
        int found = 0;
        int missed = 0;
        int costs = 0;

        void become(Deeds other) {
            isOpen = other.isOpen;
            stones = other.stones;
            z = other.z;
            looksOfOpen = other.looksOfOpen;
            eaten = other.eaten;
            looks = other.looks;
            found = other.found;
            missed = other.missed;
            costs = other.costs;
        }

        void begin(int howMany, int drawnTo) {
            isOpen = true;
            stones = howMany;
            z = drawnTo;
            looksOfOpen = 0;
        }

        void addLook(int out, int cost, int drawnTo) {
            stones -= out;
            z = drawnTo;
            looksOfOpen++;
            looks++;
            found += out;
            costs += cost;
        }

        int end(int tooth) {
            isOpen = false;
            eaten++;
            missed += stones;
            costs += tooth * stones;
            return stones;
        }
    }

    /** BODIES, whose acts come from their own KIND or from above, and THE TRACE. */
    private static final class Bodies {
        static final int MOST = 50, ACTS = 4, MOST_TRACED = 24;
        private static final int PICKS = 0, FINDS = 1, LEAVES = 2, TELLS = 3;
        private static final int KINDS = 8, DEEPEST = 40;
        private static final int[] ABOVE = {-1, 0, 0, 2, 1, 3, 0, 6};
        /** By KIND and ACT the number of the body that this KIND has itself; 0: none. */
        private static final int[] OWN = {
            1, 10, 11, 2,
            20, 0, 0, 0,
            0, 30, 0, 0,
            0, 41, 40, 0,
            0, 0, 0, 50,
            0, 0, 60, 61,
            70, 0, 0, 0,
            81, 80, 0, 0};

        private final int[] kinds = new int[MOST];
        int size = 0;
        private final int[] trace = new int[MOST_TRACED];
        int ran = 0;
        private int actor = 0;

        static boolean isKind(int kind) {
            return kind >= 0 && kind < KINDS;
        }

        static boolean isUnder(int kind, int other) {
            int at = kind;
            for (int i = 0; i < KINDS && isKind(at); i++) {
                if (at == other) return true;
                at = ABOVE[at];
            }
            return false;
        }

        boolean has(int number) {
            return number >= 0 && number < size;
        }

        int add(int kind) {
            if (size == MOST) return FULL;
            kinds[size] = kind;
            size++;
            return size - 1;
        }

        int kindOf(int number) {
            return has(number) ? kinds[number] : BAD;
        }

        int traced(int i) {
            return i >= 0 && i < MOST_TRACED ? trace[i] : BAD;
        }

        void forget() {
            ran = 0;
        }

        int perform(int number, int act, int x) {
            actor = number;
            return own(act, x, 0);
        }

        private int own(int act, int x, int depth) {
            return from(kindOf(actor), act, x, depth);
        }

        /** Runs the body of a KIND, or of the next KIND above that has one. */
        private int from(int kind, int act, int x, int depth) {
            int at = kind;
            for (int i = 0; i < KINDS && isKind(at) && OWN[at * ACTS + act] == 0; i++) at = ABOVE[at];
            if (!isKind(at) || depth > DEEPEST) return 0;
            int body = OWN[at * ACTS + act];
            note(body);
            return at == 0 ? atTop(body, x, depth + 1) : below(body, ABOVE[at], x, depth + 1);
        }

        private void note(int body) {
            if (ran < MOST_TRACED) trace[ran] = body;
            ran++;
        }

        private int atTop(int body, int x, int depth) {
            switch (body) {
                case 1: return x + actor;
                case 2: return own(FINDS, x, depth) - own(LEAVES, 1, depth);
                case 10: return own(PICKS, x, depth) * 2;
                case 11: return x ^ actor;
                default: return 0;
            }
        }

        private int below(int body, int above, int x, int depth) {
            switch (body) {
                case 20: return from(above, PICKS, x, depth) + 3;
                case 30: return -from(above, FINDS, x, depth);
                case 40: return from(above, LEAVES, x, depth) * 3;
                case 41: return from(above, FINDS, x + 1, depth);
                case 50: return from(above, TELLS, x, depth) ^ 5;
                case 60: return from(above, LEAVES, x, depth) - own(PICKS, 2, depth);
                case 61: return from(above, TELLS, x, depth) + 1;
                case 70: return from(above, PICKS, x, depth) * 2;
                case 80: return from(above, FINDS, x, depth) + own(LEAVES, 2, depth);
                case 81: return from(above, PICKS, x, depth) - 1;
                default: return 0;
            }
        }
    }
}
