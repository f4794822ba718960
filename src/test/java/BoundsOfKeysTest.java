/** Boundary cases of promises 5 to 10: KEYS, VALUES and SETTINGS. */
public final class BoundsOfKeysTest {
    private static final int NONE = TripleSieve.NONE;
    private static final int[] LEAST = {0, 1, 1, 0, 0, 0, 0};
    private static final int[] MOST = {0, 32, 16, 8, 999999999, 2, 2};

    public static void main(String[] args) {
        Sentences.runAll(BoundsOfKeysTest.class);
    }

    // ---- promise 5

    @Sentence(promise = 5, says = "NoSuchElementException: there is none.")
    private static void keyOfNone() {
        for (int n : new int[] {0, 1, 2, 47, 48}) {
            TripleSieve x = Sentences.of(Sentences.keys(n));
            Sentences.due("key(-1) of " + n + " throws", Sentences.keyThrows(x, -1), true);
            Sentences.due("key(" + n + ") of " + n + " throws", Sentences.keyThrows(x, n), true);
            Sentences.due("key(48) of " + n + " throws", Sentences.keyThrows(x, 48), true);
            for (int k : Sentences.FAR) {
                Sentences.due("key(" + k + ") throws", Sentences.keyThrows(x, k), true);
            }
            if (n > 0) {
                Sentences.due("key(0)", x.key(0), 0);
                Sentences.due("key of the last", x.key(n - 1), n - 1);
            }
        }
    }

    @Sentence(promise = 5, says = "The k-th KEY.")
    private static void keyOfAnySize() {
        TripleSieve x = new TripleSieve();
        long[] numbers = {Long.MIN_VALUE, Long.MAX_VALUE, -1, 0, 1L << 32, 1L << 31, Integer.MIN_VALUE};
        for (long number : numbers) {
            x.add(number, 0);
        }
        for (int k = 0; k < numbers.length; k++) {
            Sentences.due("key(" + k + ")", x.key(k), numbers[k]);
        }
    }

    @Sentence(promise = 5, says = "NoSuchElementException")
    private static void keyThatThrowsChangesNothing() {
        Sentences.dueNothing("key(3)", Sentences::rich, x -> Sentences.keyThrows(x, 3));
    }

    // ---- promise 6

    @Sentence(promise = 6, says = "NONE: there is none.")
    private static void worthOfNone() {
        for (int n : new int[] {0, 1, 2, 47, 48}) {
            TripleSieve x = Sentences.of(Sentences.keys(n));
            Sentences.due("worth(-1)", x.worth(-1), NONE);
            Sentences.due("worth(" + n + ") of " + n, x.worth(n), NONE);
            Sentences.due("worth(48)", x.worth(48), NONE);
            for (int k : Sentences.FAR) {
                Sentences.due("worth(" + k + ")", x.worth(k), NONE);
            }
            if (n > 0) {
                Sentences.due("worth(0)", x.worth(0), 0);
                Sentences.due("worth of the last", x.worth(n - 1), 0);
            }
        }
    }

    @Sentence(promise = 6, says = "NONE: there is none.")
    private static void worthOfOneThatWent() {
        TripleSieve x = Sentences.of("key 1 is 5;key 2 is 6;");
        x.gone(2);
        Sentences.due("worth(1)", x.worth(1), NONE);
        x.gone(1);
        Sentences.due("worth(0)", x.worth(0), NONE);
    }

    // ---- promise 7

    @Sentence(promise = 7, says = "A number comes as the last KEY: how many there are.")
    private static void addFromNoneTo48() {
        TripleSieve x = new TripleSieve();
        for (int n = 1; n <= 48; n++) {
            Sentences.due("add", x.add(-n, n % 16), n);
            Sentences.due("key of the last", x.key(n - 1), -n);
            Sentences.due("worth of the last", x.worth(n - 1), n % 16);
        }
        Sentences.due("key(0)", x.key(0), -1);
    }

    @Sentence(promise = 7, says = "NONE, and nothing happens: there are 48")
    private static void addTo48() {
        TripleSieve x = Sentences.of(Sentences.keys(47));
        Sentences.due("add to 47", x.add(100, 0), 48);
        Sentences.due("add to 48", x.add(101, 0), NONE);
        Sentences.due("count(0)", x.count(0), 48);
        x.gone(0);
        Sentences.due("add behind gone", x.add(101, 0), 48);
        Sentences.due("add to 48", x.add(102, 0), NONE);
        x.undo();
        Sentences.due("add behind undo", x.add(102, 0), 48);
        Sentences.dueNothing("add to 48", () -> {
            TripleSieve y = Sentences.of("cells 32;" + Sentences.keys(46));
            y.add(90, 1);
            y.add(91, 2);
            return y;
        }, y -> y.add(92, 3));
    }

    @Sentence(promise = 7, says = "no such VALUE")
    private static void addOfNoValue() {
        for (int bits = 0; bits <= 8; bits++) {
            TripleSieve x = Sentences.of("bits " + bits + ";");
            Sentences.due("add of 2 to the BITS", x.add(1, 1 << bits), NONE);
            Sentences.due("add of -1", x.add(1, -1), NONE);
            for (int v : Sentences.FAR) {
                Sentences.due("add of " + v, x.add(1, v), NONE);
            }
            Sentences.due("count(0)", x.count(0), 0);
            Sentences.due("add of the most", x.add(1, (1 << bits) - 1), 1);
            Sentences.due("worth(0)", x.worth(0), (1 << bits) - 1);
            Sentences.due("add of 0", x.add(2, 0), 2);
        }
        Sentences.dueNothing("add of a VALUE too high", Sentences::rich, x -> x.add(77, 16));
        Sentences.dueNothing("add of a VALUE too low", Sentences::rich, x -> x.add(77, -1));
    }

    @Sentence(promise = 7, says = "-2, likewise: it is a KEY already.")
    private static void addOfAKey() {
        TripleSieve x = new TripleSieve();
        long[] numbers = {Long.MIN_VALUE, 0, Long.MAX_VALUE};
        for (long number : numbers) {
            x.add(number, 1);
        }
        for (long number : numbers) {
            Sentences.due("add of a KEY", x.add(number, 1), -2);
            Sentences.due("add of a KEY with another VALUE", x.add(number, 2), -2);
        }
        Sentences.due("count(0)", x.count(0), 3);
        x.gone(0);
        Sentences.due("add of one that went", x.add(0, 4), 3);
        // numbers that are the same in their lowest bits alone are others
        Sentences.due("add of 1L << 32", x.add(1L << 32, 0), 4);
        Sentences.dueNothing("add of a KEY", Sentences::rich, y -> y.add(6, 2));
    }

    @Sentence(promise = 7, says = "Of several reasons NONE goes ahead.")
    private static void addForSeveralReasons() {
        TripleSieve x = Sentences.of("key 1;");
        Sentences.due("add of a KEY, no such VALUE", x.add(1, 16), NONE);
        Sentences.due("add of a KEY, no such VALUE", x.add(1, -1), NONE);
        x = Sentences.of(Sentences.keys(48));
        Sentences.due("add of the first KEY to 48", x.add(0, 0), NONE);
        Sentences.due("add of the last KEY to 48", x.add(47, 0), NONE);
        Sentences.due("add to 48, no such VALUE", x.add(99, 16), NONE);
    }

    // ---- promise 8

    @Sentence(promise = 8, says = "(those behind it are numbered one less): which one it was")
    private static void goneFirstMiddleLast() {
        int[] which = {0, 1, 23, 46, 47};
        for (int k : which) {
            TripleSieve x = Sentences.of("bits 6;" + Sentences.keys(48));
            for (int i = 0; i < 48; i++) {
                x.turn(i, i);
            }
            Sentences.due("gone(" + k + ")", x.gone(k), k);
            Sentences.due("count(0)", x.count(0), 47);
            for (int i = 0; i < 47; i++) {
                Sentences.due("key(" + i + ")", x.key(i), i < k ? i : i + 1);
                Sentences.due("worth(" + i + ")", x.worth(i), i < k ? i : i + 1);
            }
            Sentences.due("key(47) throws", Sentences.keyThrows(x, 47), true);
        }
    }

    @Sentence(promise = 8, says = "A number is no KEY any more")
    private static void goneTheOnlyOne() {
        TripleSieve x = Sentences.of("key 5 is 3;");
        Sentences.due("gone", x.gone(5), 0);
        Sentences.due("count(0)", x.count(0), 0);
        Sentences.due("count(9)", x.count(9), 48);
        Sentences.due("gone again", x.gone(5), NONE);
        Sentences.due("add", x.add(5, 0), 1);
    }

    @Sentence(promise = 8, says = "NONE, and nothing happens: it is none.")
    private static void goneOfNone() {
        TripleSieve x = new TripleSieve();
        Sentences.due("gone of no KEYS", x.gone(0), NONE);
        x = Sentences.of("key 0;key 7;");
        for (long number : new long[] {-1, 1, 8, 1L << 32, (1L << 32) + 7, Long.MIN_VALUE, Long.MAX_VALUE}) {
            Sentences.due("gone(" + number + ")", x.gone(number), NONE);
        }
        Sentences.due("count(7)", x.count(7), 0);
        Sentences.dueNothing("gone of none", Sentences::rich, y -> y.gone(7));
        // what was told ahead is no KEY behind text()
        Sentences.tell(x, "key 1;");
        Sentences.due("gone of an old KEY", x.gone(7), NONE);
        Sentences.due("gone of an old KEY", x.gone(0), NONE);
    }

    // ---- promise 9

    @Sentence(promise = 9, says = "The k-th KEY has another VALUE: which it had")
    private static void turnFirstAndLast() {
        TripleSieve x = Sentences.of("bits 8;" + Sentences.keys(48));
        Sentences.due("turn(0, 255)", x.turn(0, 255), 0);
        Sentences.due("turn(47, 254)", x.turn(47, 254), 0);
        Sentences.due("turn(0, 0)", x.turn(0, 0), 255);
        Sentences.due("turn(47, 1)", x.turn(47, 1), 254);
        Sentences.due("worth(0)", x.worth(0), 0);
        Sentences.due("worth(46)", x.worth(46), 0);
        Sentences.due("worth(47)", x.worth(47), 1);
    }

    @Sentence(promise = 9, says = "NONE, and nothing happens: no such ones.")
    private static void turnOfNoKey() {
        for (int n : new int[] {0, 1, 48}) {
            TripleSieve x = Sentences.of(Sentences.keys(n));
            Sentences.due("turn(-1, 1)", x.turn(-1, 1), NONE);
            Sentences.due("turn(" + n + ", 1)", x.turn(n, 1), NONE);
            for (int k : Sentences.FAR) {
                Sentences.due("turn(" + k + ", 1)", x.turn(k, 1), NONE);
            }
            Sentences.due("count(7)", x.count(7), 0);
        }
        Sentences.dueNothing("turn(-1, 1)", Sentences::rich, x -> x.turn(-1, 1));
        Sentences.dueNothing("turn(3, 1)", Sentences::rich, x -> x.turn(3, 1));
    }

    @Sentence(promise = 9, says = "NONE, and nothing happens: no such ones.")
    private static void turnToNoValue() {
        for (int bits = 0; bits <= 8; bits++) {
            TripleSieve x = Sentences.of("bits " + bits + ";key 5;");
            Sentences.due("turn to 2 to the BITS", x.turn(0, 1 << bits), NONE);
            Sentences.due("turn to -1", x.turn(0, -1), NONE);
            for (int v : Sentences.FAR) {
                Sentences.due("turn to " + v, x.turn(0, v), NONE);
            }
            Sentences.due("count(7)", x.count(7), 0);
            Sentences.due("turn to the most", x.turn(0, (1 << bits) - 1), 0);
        }
        Sentences.dueNothing("turn(0, 16)", Sentences::rich, x -> x.turn(0, 16));
        Sentences.dueNothing("turn(0, -1)", Sentences::rich, x -> x.turn(0, -1));
    }

    // ---- promise 10

    @Sentence(promise = 10, says = "A SETTING (1 to 6) is told: what it was")
    private static void setLeastAndMost() {
        int[] untold = {0, 16, 8, 4, 1, 0, 0};
        for (int what = 1; what <= 6; what++) {
            TripleSieve x = new TripleSieve();
            Sentences.due("set(" + what + ", least)", x.set(what, LEAST[what]), untold[what]);
            Sentences.due("count(" + what + ")", x.count(what), LEAST[what]);
            Sentences.due("set(" + what + ", most)", x.set(what, MOST[what]), LEAST[what]);
            Sentences.due("count(" + what + ")", x.count(what), MOST[what]);
            for (int other = 1; other <= 6; other++) {
                if (other != what) {
                    Sentences.due("count(" + other + ")", x.count(other), untold[other]);
                }
            }
        }
    }

    @Sentence(promise = 10, says = "NONE, and nothing happens: no such ones")
    private static void setNoSuchNumber() {
        for (int what = 1; what <= 6; what++) {
            int setting = what;
            TripleSieve x = new TripleSieve();
            Sentences.due("set(" + what + ", too low)", x.set(what, LEAST[what] - 1), NONE);
            Sentences.due("set(" + what + ", too high)", x.set(what, MOST[what] + 1), NONE);
            for (int v : new int[] {Integer.MIN_VALUE, -1, 1000000000, Integer.MAX_VALUE}) {
                Sentences.due("set(" + what + ", " + v + ")", x.set(what, v), NONE);
            }
            Sentences.dueAlike("behind what is refused", x, new TripleSieve());
            Sentences.dueNothing("set(" + what + ", too low)", Sentences::rich, y -> y.set(setting, LEAST[setting] - 1));
            Sentences.dueNothing("set(" + what + ", too high)", Sentences::rich, y -> y.set(setting, MOST[setting] + 1));
        }
    }

    @Sentence(promise = 10, says = "A SETTING (1 to 6)")
    private static void setNoSuchSetting() {
        TripleSieve x = new TripleSieve();
        for (int what : new int[] {0, -1, 7, 8, Integer.MIN_VALUE, Integer.MAX_VALUE}) {
            for (int v = -1; v <= 2; v++) {
                Sentences.due("set(" + what + ", " + v + ")", x.set(what, v), NONE);
            }
        }
        Sentences.dueAlike("behind what is refused", x, new TripleSieve());
        Sentences.dueNothing("set(0, 0)", Sentences::rich, y -> y.set(0, 0));
        Sentences.dueNothing("set(7, 1)", Sentences::rich, y -> y.set(7, 1));
    }

    @Sentence(promise = 10, says = "BITS by which some VALUE can't be")
    private static void setBitsTooFew() {
        for (int bits = 0; bits < 8; bits++) {
            for (int k : new int[] {0, 1, 2}) {
                TripleSieve x = Sentences.of("bits 8;key 1;key 2;key 3;");
                x.turn(k, 1 << bits);
                Sentences.due("set(3, " + bits + ") with the VALUE 2 to the BITS", x.set(3, bits), NONE);
                Sentences.due("count(3)", x.count(3), 8);
                Sentences.due("count(7)", x.count(7), 1);
                Sentences.due("set(3, " + (bits + 1) + ")", x.set(3, bits + 1), 8);
                x.turn(k, (1 << bits) - 1);
                Sentences.due("set(3, " + bits + ") with one less", x.set(3, bits), bits + 1);
            }
        }
        Sentences.dueNothing("set(3, 3)", Sentences::rich, x -> x.set(3, 3));
    }

    @Sentence(promise = 10, says = "BITS by which some VALUE can't be")
    private static void setBitsForThoseWhoWent() {
        TripleSieve x = Sentences.of("key 1 is 15;key 2 is 1;");
        Sentences.due("set(3, 1)", x.set(3, 1), NONE);
        x.gone(1);
        Sentences.due("set(3, 1) without the KEY", x.set(3, 1), 4);
        Sentences.due("set(3, 0)", x.set(3, 0), NONE);
        x.gone(2);
        Sentences.due("set(3, 0) without KEYS", x.set(3, 0), 1);
        Sentences.due("add of 1", x.add(5, 1), NONE);
        Sentences.due("add of 0", x.add(5, 0), 1);
        // a VALUE of another setting's size is no reason
        x = Sentences.of("key 1 is 15;");
        Sentences.due("set(1, 1)", x.set(1, 1), 16);
        Sentences.due("set(2, 1)", x.set(2, 1), 8);
    }
}
