import java.util.Random;

/** Random runs of calls, each answer held against the document told a second time (Slow). */
public final class AgainstSlowTest {
    private static final Due due = new Due("AgainstSlowTest");
    private static Random random;
    private static StoneInLentils x;
    private static Slow slow;

    public static void main(String[] args) {
        int runs = args.length > 0 ? Integer.parseInt(args[0]) : 450;
        for (int run = 0; run < runs; run++) {
            random = new Random(run);
            x = new StoneInLentils();
            slow = new Slow();
            boolean dear = run % 30 == 0;
            int ahead = due.asked();
            // a step takes some 130 calls at most, and an object is good for 512
            for (int i = 0; i < 100 && due.asked() - ahead < 370; i++) step(dear);
        }
        due.end();
    }

    /** Mostly a number from 0 on, now and then one far off. */
    private static int some(int below) {
        int r = random.nextInt(40);
        if (r == 0) return -1;
        if (r == 1) return below;
        if (r == 2) return random.nextInt();
        return random.nextInt(below);
    }

    private static void step(boolean dear) {
        int kind = random.nextInt(20);
        if (kind < 3) numbers();
        else if (kind < 5) texts();
        else if (kind < 9) shelves();
        else if (kind < 13) thoughts(dear);
        else if (kind < 16) deeds();
        else others(dear);
    }

    private static void numbers() {
        int n = some(4);
        int what = some(12);
        int v = random.nextBoolean() ? some(10) : some(100);
        switch (random.nextInt(6)) {
            case 0: due.is("looker", x.looker(v * 100 + n), slow.looker(v * 100 + n)); break;
            case 1: case 2: due.is("mend " + n + " " + what + " " + v, x.mend(n, what, v), slow.mend(n, what, v)); break;
            case 3: due.is("of", x.of(n, what), slow.of(n, what)); break;
            case 4: due.is("undo", x.undo(), slow.undo()); break;
            default: due.is("redo", x.redo(), slow.redo()); break;
        }
        int c = random.nextInt(4);
        due.is("count " + c, x.count(c), slow.count(c));
    }

    private static String text(int depth) {
        String signs = "|&<=>+-*/%";
        StringBuilder text = new StringBuilder();
        int parts = random.nextInt(3) + 1;
        for (int i = 0; i < parts; i++) {
            if (i > 0) text.append(signs.charAt(random.nextInt(signs.length())));
            int r = random.nextInt(10);
            if (r < 4) text.append("stlhnk".charAt(random.nextInt(6)));
            else if (r < 7) text.append(random.nextInt(random.nextBoolean() ? 13 : 10000));
            else if (r == 7) text.append('!').append(depth > 5 ? "1" : text(depth + 1));
            else if (r == 8) text.append('-').append(depth > 5 ? "n" : text(depth + 1));
            else text.append('(').append(depth > 5 ? "k" : text(depth + 1)).append(')');
        }
        return text.toString();
    }

    private static void texts() {
        StringBuilder all = new StringBuilder(text(0));
        int more = random.nextInt(4);
        for (int i = 0; i < more; i++) all.append(random.nextBoolean() ? "?" : ";").append(text(0));
        if (random.nextInt(4) == 0) {
            String letters = "stlhnk0123456789|&<=>+-*/%!()?;x";
            all.setCharAt(random.nextInt(all.length()), letters.charAt(random.nextInt(letters.length())));
        }
        if (random.nextInt(10) == 0) all.setLength(random.nextInt(all.length() + 1));
        if (all.length() > 120) all.setLength(120);
        for (int i = 0; i < all.length(); i++) due.is("feed", x.feed(all.charAt(i)), slow.feed(all.charAt(i)));
        due.is("law " + all, x.law(), slow.law());
        for (int i = 0; i < 5; i++) {
            int who = some(4);
            int n = some(10);
            due.is("finds by " + slow.law, x.finds(who, n), slow.finds(who, n));
        }
    }

    private static void shelves() {
        int shelf = some(6);
        int i = some(6);
        int n = some(6);
        int other = some(6);
        int j = some(6);
        switch (random.nextInt(12)) {
            case 0: due.is("body", x.body(i + 1), slow.body(i + 1)); break;
            case 1: due.is("keep", x.keep(shelf, i - 1), slow.keep(shelf, i - 1)); break;
            case 2: due.is("row", x.row(shelf, i, n), slow.row(shelf, i, n)); break;
            case 3: due.is("put", x.put(shelf, i, n * 1000000007L), slow.put(shelf, i, n * 1000000007L)); break;
            case 4: due.is("element", x.element(shelf, i), slow.element(shelf, i)); break;
            case 5: due.is("shift", x.shift(shelf, i, other, j, n), slow.shift(shelf, i, other, j, n)); break;
            case 6: due.is("taken", x.taken(shelf, i), slow.taken(shelf, i)); break;
            case 7: due.is("lookers", x.lookers(shelf, i, n), slow.lookers(shelf, i, n)); break;
            default: lookRow(); break;
        }
    }

    private static void lookRow() {
        int shelf = random.nextInt(6);
        int n = random.nextInt(11);
        due.is("row", x.row(shelf, 0, n), slow.row(shelf, 0, n));
        for (int i = 0; i < n; i++) {
            int v = random.nextInt(30) == 0 ? random.nextInt() : i % 2 == 0 ? random.nextInt(4) : random.nextInt(10) / 5;
            due.is("put", x.put(shelf, i, v), slow.put(shelf, i, v));
        }
    }

    private static void thoughts(boolean dear) {
        int shelf = some(6);
        int bag = some(4);
        int part = some(2);
        int j = some(4);
        int by = 10 * bag + (random.nextInt(4) == 0 ? 6 : some(6));
        switch (random.nextInt(6)) {
            case 0: due.is("left", x.left(shelf, bag, j, part), slow.left(shelf, bag, j, part)); break;
            case 1: due.is("mean", x.mean(shelf, bag, j, part), slow.mean(shelf, bag, j, part)); break;
            case 2: due.is("worth", x.worth(shelf, by, part), slow.worth(shelf, by, part)); break;
            case 3: due.is("next", x.next(shelf, bag), slow.next(shelf, bag)); break;
            case 4: planOnce(bag, dear ? j : Math.min(j, slow.lookers.size() < 3 ? 3 : 2)); break;
            default:
                if (dear || slow.lookers.size() < 4) due.is("buy", x.buy(part), slow.buy(part));
                if (dear || slow.lookers.size() < 4) due.is("buy", x.buy(2), slow.buy(2));
                break;
        }
    }

    private static void planOnce(int bag, int m) {
        if (m == 3 && slow.lookers.size() > 4) return;
        for (int part = 0; part < 3; part++) {
            due.is("plan " + bag + " " + m, x.plan(bag, m, part), slow.plan(bag, m, part));
        }
    }

    private static void deeds() {
        int a = some(4);
        int b = random.nextInt();
        switch (random.nextInt(9)) {
            case 0: case 1: due.is("open", x.open(a, b), slow.open(a, b)); break;
            case 2: case 3: case 4: due.is("look", x.look(a), slow.look(a)); break;
            case 5: due.is("eat", x.eat(), slow.eat()); break;
            case 6: due.is("image", x.image(), slow.image()); break;
            case 7: due.is("back", x.back(), slow.back()); break;
            default: break;
        }
        for (int i = -1; i < 7; i++) due.is("led", x.led(i), slow.led(i));
    }

    private static void others(boolean dear) {
        int shelf = some(6);
        int bag = some(4);
        int what = some(3);
        int k = some(4);
        switch (random.nextInt(5)) {
            case 0:
                int nh = 100 * (some(60) + 1) + random.nextInt(random.nextBoolean() ? 5 : 61);
                due.is("handful", x.handful(bag, nh, what, k % 2), slow.handful(bag, nh, what, k % 2));
                break;
            case 1:
                int n = some(dear ? 40 : 12) + 1;
                int m = random.nextBoolean() ? some(100) : some(1000);
                due.is("heaps " + n + " " + m, x.heaps(n, m, what + k), slow.heaps(n, m, what + k));
                break;
            case 2: case 3:
                if (dear || slow.lookers.size() < 4) due.is("who", x.who(shelf, bag, what, k), slow.who(shelf, bag, what, k));
                break;
            default:
                int bn = 100 * bag + some(30) + 1;
                int seed = random.nextInt();
                due.is("drawn", x.drawn(shelf, seed, bn, what), slow.drawn(shelf, seed, bn, what));
                break;
        }
    }
}
