/** Promises 23 to 30: looks in deed, an image, changes undone and done again. */
public final class DeedTest {
    private static final Due due = new Due("DeedTest");

    public static void main(String[] args) {
        openLookEat();
        likeDrawn();
        led();
        imageAndBack();
        undoAndRedo();
        fortyAreKept();
        due.end();
    }

    private static void openLookEat() {
        StoneInLentils x = new StoneInLentils();
        due.is("24: no looker, none open", x.look(0), -1);
        x.looker(1205);
        due.is("24: none is open", x.look(0), -5);
        due.is("25: none is open", x.eat(), -5);
        due.is("23: bag -1", x.open(-1, 0), -1);
        due.is("23: bag 4", x.open(4, 0), -1);
        for (int j = 0; j < 3; j++) x.mend(2, j, 0);
        due.is("23: the bag", x.open(2, 99), 2);
        due.is("23: one is open", x.open(2, 99), -5);
        due.is("23: BAD ahead of STATE", x.open(4, 99), -1);
        due.is("24: no such looker", x.look(1), -1);
        due.is("24: no such looker", x.look(-1), -1);
        due.is("24: finds all", x.look(0), 3);
        due.is("24: none is left", x.look(0), 0);
        due.is("25: none is left", x.eat(), 0);
        due.is("25: none is open", x.eat(), -5);
        x.open(2, 1);
        due.is("25: three are left", x.eat(), 3);
        for (int j = 0; j < 4; j++) x.mend(1, j, 0);
        x.open(1, 1);
        due.is("25: no stones", x.eat(), 0);
        Due.tell(x, "n=2?12;0");
        x.open(2, 1);
        due.is("24: n is 0", x.look(0), 0);
        due.is("24: n is 1", x.look(0), 0);
        due.is("24: n is 2", x.look(0), 3);
        x.eat();
        x.open(2, 1);
        due.is("24: n begins again", x.look(0), 0);
    }

    /** A bag in deed goes by the same draws as one that is drawn in thought. */
    private static void likeDrawn() {
        StoneInLentils x = new StoneInLentils();
        x.looker(605);
        x.looker(302);
        Due.bytes(x, 0, 0, 0, 1, 0, 0, 0);
        for (int seed = -40; seed < 40; seed++) {
            x = new StoneInLentils();
            x.looker(605);
            x.looker(302);
            Due.bytes(x, 0, 0, 0, 1, 0, 0, 0);
            int left = x.drawn(0, seed * 7919, 1, 0);
            x.open(0, seed * 7919);
            x.drawn(0, 5, 30, 0);
            int found = x.look(0) + x.look(1) + x.look(0);
            due.is("24: found", x.led(2), found);
            due.is("25: left", x.eat(), left);
            Due.bytes(x, 0);
            due.is("23: stones", x.drawn(0, seed * 7919, 1, 0), left + found);
        }
    }

    private static void led() {
        StoneInLentils x = new StoneInLentils();
        x.looker(1205);
        x.looker(3);
        for (int j = 0; j < 3; j++) x.mend(0, j, 0);
        due.is("26: none is open", x.led(5), -5);
        x.open(0, 1);
        due.is("26: opened", x.led(0), 0);
        due.is("26: no look yet", x.led(5), 0);
        x.look(1);
        x.look(0);
        int[] during = {0, 2, 3, 0, 8, 2};
        for (int i = 0; i < 6; i++) due.is("26: led(" + i + ")", x.led(i), during[i]);
        x.eat();
        x.mend(0, 10, 7);
        x.mend(0, 6, 50);
        x.open(0, 1);
        x.look(1);
        x.eat();
        int[] behind = {2, 3, 3, 3, 8 + 3 + 21, -5};
        for (int i = 0; i < 6; i++) due.is("26: led(" + i + ")", x.led(i), behind[i]);
        due.is("26: what", x.led(6), -1);
        due.is("26: what", x.led(-1), -1);
    }

    private static void imageAndBack() {
        StoneInLentils x = new StoneInLentils();
        due.is("28: there is none", x.back(), -5);
        x.looker(605);
        x.open(0, 3);
        x.eat();
        x.open(1, 12);
        x.look(0);
        due.is("27: bags eaten", x.image(), 1);
        int[] kept = new int[6];
        for (int i = 0; i < 6; i++) kept[i] = x.led(i);
        int next = x.look(0);
        int left = x.eat();
        x.open(0, 4);
        x.eat();
        x.mend(0, 6, 9);
        due.is("28: bags eaten", x.back(), 1);
        for (int i = 0; i < 6; i++) due.is("28: led(" + i + ")", x.led(i), kept[i]);
        due.is("28: numbers stay", x.of(0, 6), 9);
        due.is("28: changes stay", x.count(2), 1);
        due.is("28: draws go on", x.look(0), next);
        due.is("28: stones", x.eat(), left);
        due.is("28: again", x.back(), 1);
        due.is("28: again", x.led(5), 1);
        due.is("28: draws go on", x.look(0), next);
        x.eat();
        due.is("27: a later one", x.image(), 2);
        x.open(0, 4);
        due.is("28: none was open", x.back(), 2);
        due.is("28: none was open", x.led(5), -5);
    }

    private static void undoAndRedo() {
        StoneInLentils x = new StoneInLentils();
        due.is("29: none", x.undo(), -5);
        due.is("30: none", x.redo(), -5);
        x.looker(605);
        int[] was = new int[12];
        int[] become = {2, 3, 4, 5, 6, 7, 8, 2, 3, 4, 5, 6};
        for (int what = 0; what < 12; what++) was[what] = x.mend(0, what, become[what]);
        due.is("29: twelve", x.count(2), 12);
        for (int what = 11; what >= 0; what--) {
            due.is("29: undo", x.undo(), what);
            due.is("29: of " + what, x.of(0, what), was[what]);
        }
        due.is("29: none", x.undo(), -5);
        for (int what = 0; what < 12; what++) {
            due.is("30: redo", x.redo(), 11 - what);
            due.is("30: of " + what, x.of(0, what), become[what]);
        }
        due.is("30: none", x.redo(), -5);
        x.undo();
        x.mend(0, 7, x.of(0, 7));
        x.mend(0, 7, 100);
        x.looker(302);
        due.is("30: what is no change leaves it", x.redo(), 0);
        x.undo();
        x.undo();
        x.mend(1, 4, 11);
        due.is("30: another came behind", x.redo(), -5);
        due.is("29: eleven", x.count(2), 11);
        due.is("29: the latest first", x.undo(), 10);
        due.is("29: the latest first", x.of(1, 4), 10);
        x.open(0, 1);
        x.look(0);
        x.eat();
        due.is("29: deeds are none", x.count(2), 10);
        due.is("30: deeds are none", x.redo(), 0);
        due.is("29: a looker stays", x.count(0), 2);
    }

    private static void fortyAreKept() {
        StoneInLentils x = new StoneInLentils();
        for (int i = 1; i <= 45; i++) x.mend(0, 10, i);
        due.is("29: forty", x.count(2), 40);
        for (int i = 39; i >= 0; i--) {
            due.is("29: undo", x.undo(), i);
            due.is("29: back to", x.of(0, 10), i + 5);
        }
        due.is("29: none", x.undo(), -5);
        due.is("29: five are lost", x.of(0, 10), 5);
        for (int i = 39; i >= 0; i--) due.is("30: redo", x.redo(), i);
        due.is("30: again", x.of(0, 10), 45);
        x.undo();
        x.mend(0, 10, 99);
        due.is("29: forty", x.count(2), 40);
        x.undo();
        due.is("29: it", x.of(0, 10), 44);
        fortyOfManyBags();
    }

    /** Forty-five changes of all bags by turns: each goes back and on at its own place. */
    private static void fortyOfManyBags() {
        StoneInLentils x = new StoneInLentils();
        for (int i = 0; i < 45; i++) x.mend(i % 4, 4, 20 + i);
        for (int i = 44; i >= 5; i--) {
            due.is("29: undo", x.undo(), i - 5);
            due.is("29: back at its place", x.of(i % 4, 4), i < 4 ? 10 : 16 + i);
        }
        due.is("29: none", x.undo(), -5);
        for (int i = 5; i < 45; i++) {
            due.is("30: redo", x.redo(), 44 - i);
            due.is("30: on at its place", x.of(i % 4, 4), 20 + i);
        }
    }
}
