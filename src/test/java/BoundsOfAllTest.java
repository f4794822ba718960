/** Boundary cases of promises 33 and 34: acts undone, and what is counted. */
public final class BoundsOfAllTest {
    private static final int NONE = TripleSieve.NONE;

    public static void main(String[] args) {
        Sentences.runAll(BoundsOfAllTest.class);
    }

    // ---- promise 33

    @Sentence(promise = 33, says = "The latest ACT is UNDONE: how many can be still; NONE: none can be.")
    private static void undoNone() {
        TripleSieve x = new TripleSieve();
        Sentences.due("undo() of a new object", x.undo(), NONE);
        x.set(1, 3);
        Sentences.due("undo() of one", x.undo(), 0);
        Sentences.due("undo() of none", x.undo(), NONE);
        Sentences.due("undo() of none again", x.undo(), NONE);
        Sentences.dueAlike("all is undone", x, new TripleSieve());
        Sentences.dueNothing("undo() that can't be", () -> {
            TripleSieve y = Sentences.rich();
            while (y.count(7) > 0) {
                y.undo();
            }
            return y;
        }, y -> y.undo());
    }

    @Sentence(promise = 33, says = "The last 12 can be UNDONE, one by one")
    private static void undoTwelve() {
        for (int acts : new int[] {11, 12, 13, 24, 25, 30}) {
            TripleSieve x = new TripleSieve();
            for (int v = 1; v <= acts; v++) {
                x.set(1, v);
                Sentences.due("count(7)", x.count(7), Math.min(v, 12));
            }
            int can = Math.min(acts, 12);
            for (int i = 1; i <= can; i++) {
                Sentences.due("undo()", x.undo(), can - i);
                Sentences.due("count(7)", x.count(7), can - i);
                Sentences.due("count(1)", x.count(1), acts - i == 0 ? 16 : acts - i);
            }
            Sentences.due("undo() of one more", x.undo(), NONE);
            Sentences.due("count(1)", x.count(1), acts <= 12 ? 16 : acts - 12);
        }
    }

    @Sentence(promise = 33, says = "The last 12 can be UNDONE, one by one")
    private static void undoAndActAgain() {
        TripleSieve x = new TripleSieve();
        for (int v = 1; v <= 20; v++) {
            x.set(1, v);
        }
        for (int i = 0; i < 5; i++) {
            x.undo();
        }
        Sentences.due("count(1)", x.count(1), 15);
        Sentences.due("count(7)", x.count(7), 7);
        for (int v = 25; v <= 29; v++) {
            x.set(1, v);
        }
        Sentences.due("count(7)", x.count(7), 12);
        x.set(1, 30);
        Sentences.due("count(7)", x.count(7), 12);
        int[] due = {29, 28, 27, 26, 25, 15, 14, 13, 12, 11, 10, 9};
        for (int i = 0; i < 12; i++) {
            Sentences.due("undo()", x.undo(), 11 - i);
            Sentences.due("count(1)", x.count(1), due[i]);
        }
        Sentences.due("undo()", x.undo(), NONE);
    }

    @Sentence(promise = 33, says = "ACTS: a KEY comes, goes, has another VALUE, a SETTING is told (also as it was).")
    private static void actsThatCount() {
        TripleSieve x = Sentences.of("key 1 is 5;key 2 is 6;");
        x.add(3, 7);
        Sentences.due("count(7) behind add", x.count(7), 1);
        x.gone(1);
        Sentences.due("count(7) behind gone", x.count(7), 2);
        x.turn(0, 9);
        Sentences.due("count(7) behind turn", x.count(7), 3);
        x.set(1, 30);
        Sentences.due("count(7) behind set", x.count(7), 4);
        x.set(1, 30);
        Sentences.due("count(7) behind set, as it was", x.count(7), 5);
        x.set(5, 0);
        Sentences.due("count(7) behind set, as if it were not told", x.count(7), 6);
        Sentences.due("undo()", x.undo(), 5);
        Sentences.due("undo()", x.undo(), 4);
        Sentences.due("count(1)", x.count(1), 30);
        Sentences.due("undo()", x.undo(), 3);
        Sentences.due("count(1)", x.count(1), 16);
        Sentences.due("worth(0)", x.worth(0), 9);
        Sentences.due("undo()", x.undo(), 2);
        Sentences.due("worth(0)", x.worth(0), 6);
        Sentences.due("undo()", x.undo(), 1);
        Sentences.due("key(0)", x.key(0), 1);
        Sentences.due("undo()", x.undo(), 0);
        Sentences.dueAlike("all is undone", x, Sentences.of("key 1 is 5;key 2 is 6;"));
    }

    @Sentence(promise = 33, says = "ACTS: a KEY comes, goes, has another VALUE, a SETTING is told")
    private static void whatIsNoAct() {
        TripleSieve x = Sentences.of("cells 3;prints 4;seed 11;key 5 is 9;key 6 is 1;key 7 is 15;");
        // refused calls
        x.add(5, 1);
        x.add(9, 16);
        x.gone(9);
        x.turn(3, 0);
        x.turn(0, 16);
        x.set(0, 1);
        x.set(1, 33);
        x.set(3, 3);
        // calls that ask
        x.wake(0, 1);
        x.mend(-1);
        x.tight();
        x.peels(200);
        // calls that change other things
        x.build(1);
        x.shelf(0, false);
        x.shelf(0, true);
        x.feed(0x20202020, 0x20202020, 0x20202020, 0x20202020, 0x2020203F);
        x.end(20);
        x.text();
        Sentences.due("count(7)", x.count(7), 0);
        Sentences.due("undo()", x.undo(), NONE);
    }

    @Sentence(promise = 33, says = "KEYS and SETTINGS are as ahead of it")
    private static void undoOfGoneAtEachPlace() {
        String text = "cells 32;bits 6;" + Sentences.keys(48);
        for (int k : new int[] {0, 1, 24, 46, 47}) {
            TripleSieve x = Sentences.of(text);
            x.turn(k, 63);
            x.gone(k);
            x.add(1000, 5);
            Sentences.due("count(0)", x.count(0), 48);
            x.undo();
            x.undo();
            Sentences.due("key(" + k + ")", x.key(k), k);
            Sentences.due("worth(" + k + ")", x.worth(k), 63);
            Sentences.due("count(0)", x.count(0), 48);
            x.undo();
            Sentences.dueAlike("all is undone", x, Sentences.of(text));
        }
    }

    @Sentence(promise = 33, says = "KEYS and SETTINGS are as ahead of it")
    private static void undoOfTwelveOfAllKinds() {
        TripleSieve x = Sentences.of("key 1 is 5;key 2 is 6;key 3 is 7;");
        x.gone(1);
        x.gone(3);
        x.gone(2);
        x.set(3, 0);
        x.add(2, 0);
        x.set(3, 8);
        x.turn(0, 255);
        x.add(Long.MIN_VALUE, 254);
        x.gone(2);
        x.set(4, 999999999);
        x.set(6, 2);
        x.turn(0, 1);
        Sentences.due("count(7)", x.count(7), 12);
        for (int left = 11; left >= 0; left--) {
            Sentences.due("undo()", x.undo(), left);
        }
        Sentences.dueAlike("all is undone", x, Sentences.of("key 1 is 5;key 2 is 6;key 3 is 7;"));
    }

    @Sentence(promise = 33, says = "(THE SIEVE, SHELVES stay)")
    private static void undoLeavesSieves() {
        TripleSieve x = Sentences.of("cells 3;prints 4;seed 11;key 5 is 9;key 6 is 1;key 7 is 15;");
        x.build(1);
        x.shelf(0, false);
        x.set(5, 2);
        x.turn(0, 3);
        x.set(1, 4);
        int tried = x.build(99);
        x.shelf(1, false);
        while (x.undo() > 0) {
            Sentences.due("built(1)", x.built(1), 4);
        }
        Sentences.due("count(1)", x.count(1), 3);
        Sentences.due("built(1)", x.built(1), 4);
        Sentences.due("built(6)", x.built(6), tried);
        Sentences.due("told(5), as it was built", x.told(5), 3);
        Sentences.due("unlike(1)", x.unlike(1), 0);
        Sentences.due("unlike(0)", x.unlike(0), -2);
        Sentences.due("shelf(0, true)", x.shelf(0, true), true);
        Sentences.due("told(5) by that of SHELF 0", x.told(5), 9);
    }

    // ---- promise 34

    @Sentence(promise = 34, says = "NONE for others.")
    private static void countOfOthers() {
        for (TripleSieve x : new TripleSieve[] {new TripleSieve(), Sentences.rich()}) {
            Sentences.due("count(-1)", x.count(-1), NONE);
            Sentences.due("count(11)", x.count(11), NONE);
            Sentences.due("count(12)", x.count(12), NONE);
            for (int what : Sentences.FAR) {
                Sentences.due("count(" + what + ")", x.count(what), NONE);
            }
            for (int what = 0; what <= 10; what++) {
                Sentences.due("count(" + what + ") is there", x.count(what) >= 0, true);
            }
        }
    }

    @Sentence(promise = 34, says = "What 0: KEYS, 1 to 6: SETTINGS, 7: ACTS that can be UNDONE, 8: bytes of THE TAPE")
    private static void countLeastAndMost() {
        TripleSieve x = Sentences.of("cells 1;prints 1;bits 0;seed 0;way queue;spread apart;");
        int[] least = {0, 1, 1, 0, 0, 0, 0, 0, 0, 3, 0};
        for (int what = 0; what <= 10; what++) {
            Sentences.due("count(" + what + "), least", x.count(what), least[what]);
        }
        x = Sentences.of("cells 32;prints 16;bits 8;seed 999999999;way least;spread free;" + Sentences.keys(35));
        for (int k = 35; k < 48; k++) {
            x.add(k, 255);
        }
        for (int i = 0; i < 30; i++) {
            x.feed(0, 0, 0, 0, 0);
        }
        int[] most = {48, 32, 16, 8, 999999999, 2, 2, 12, 600};
        for (int what = 0; what <= 8; what++) {
            Sentences.due("count(" + what + "), most", x.count(what), most[what]);
        }
    }

    @Sentence(promise = 34, says = "9: cells that no KEY TOUCHES")
    private static void countOfFreeCells() {
        TripleSieve x = Crafted.row(16);
        Sentences.due("count(9) of no KEYS", x.count(9), 48);
        for (int c = 0; c < 48; c++) {
            x.add(Crafted.single(16, c), 0);
            Sentences.due("count(9)", x.count(9), 47 - c);
        }
        x.gone(Crafted.single(16, 47));
        Sentences.due("count(9) without the last", x.count(9), 1);
        x.add(Crafted.single(16, 0, 1), 0);
        Sentences.due("count(9), a cell is TOUCHED twice", x.count(9), 1);
        x = Crafted.row(32);
        Sentences.due("count(9) of no KEYS in 96", x.count(9), 96);
        x.add(Crafted.free(32, 0, 64, 95), 0);
        Sentences.due("count(9) of one KEY in 96", x.count(9), 93);
        // by 1 CELLS these are 0, 2, 2, of which 2 is not TOUCHED
        x.set(1, 1);
        Sentences.due("count(9) of one KEY in 3", x.count(9), 2);
    }

    @Sentence(promise = 34, says = "10: 1 if there is a SIEVE, else 0")
    private static void countOfSieves() {
        TripleSieve x = Sentences.of("cells 1;key 1;key 2;");
        Sentences.due("count(10)", x.count(10), 0);
        x.build(99);
        Sentences.due("count(10), by none", x.count(10), 0);
        x.gone(1);
        Sentences.due("build(1)", x.build(1), 1);
        Sentences.due("count(10)", x.count(10), 1);
        x.build(0);
        x.undo();
        Sentences.due("count(10)", x.count(10), 1);
        x.shelf(0, false);
        x.text();
        Sentences.due("count(10) behind text()", x.count(10), 0);
    }
}
