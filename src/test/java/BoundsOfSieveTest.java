import java.util.function.Supplier;

/** Boundary cases of promises 24 to 32: THE SIEVE, who passes it, and sieves on shelves. */
public final class BoundsOfSieveTest {
    private static final int NONE = TripleSieve.NONE;

    public static void main(String[] args) {
        Sentences.runAll(BoundsOfSieveTest.class);
    }

    // ---- promise 24

    @Sentence(promise = 24, says = "THE SIEVE is BUILT by one of m SEEDS (1 to 99): how many of them were tried (that by which it is, too)")
    private static void buildByTheFirstAndTheLast() {
        Sentences.due("build(1) of no KEYS", new TripleSieve().build(1), 1);
        Sentences.due("build(99) of no KEYS", new TripleSieve().build(99), 1);
        // by SEED 253 to 350 some are STUCK, by 351 none is
        String keys = Sentences.keys(43);
        TripleSieve x = Sentences.of("seed 253;" + keys);
        Sentences.due("build(98)", x.build(98), -2);
        Sentences.due("built(0)", x.built(0), NONE);
        Sentences.due("build(99)", x.build(99), 99);
        Sentences.dueRow("built", facts(x), 351, 16, 8, 4, 0, 43, 99, 576);
        x = Sentences.of("seed 252;" + keys);
        Sentences.due("build(99), the hundredth would do", x.build(99), -2);
        x = Sentences.of("seed 351;" + keys);
        Sentences.due("build(1)", x.build(1), 1);
        Sentences.due("built(0)", x.built(0), 351);
    }

    @Sentence(promise = 24, says = "of SEED, SEED + 1, and so on, the first by which none is STUCK")
    private static void buildBehindTheLastSeed() {
        TripleSieve x = Sentences.of("seed 999999999;" + Sentences.keys(42));
        Sentences.due("build(28)", x.build(28), -2);
        Sentences.due("build(29)", x.build(29), 29);
        Sentences.due("built(0)", x.built(0), 1000000027);
        Sentences.due("count(4) stays", x.count(4), 999999999);
        Sentences.due("right()", x.right(), 42);
        x = Sentences.of("cells 32;seed 0;key 1;");
        Sentences.due("build(1) by SEED 0", x.build(1), 1);
        Sentences.due("built(0)", x.built(0), 0);
    }

    @Sentence(promise = 24, says = "-2, and nothing happens: by none")
    private static void buildByNone() {
        TripleSieve x = Sentences.of("cells 1;key 1;key 2;");
        for (int m : new int[] {1, 2, 98, 99}) {
            Sentences.due("build(" + m + ")", x.build(m), -2);
        }
        Sentences.due("count(10)", x.count(10), 0);
        Sentences.dueNothing("build(99) by none", () -> {
            TripleSieve y = Sentences.rich();
            y.set(1, 1);
            y.set(2, 9);
            return y;
        }, y -> y.build(99));
    }

    @Sentence(promise = 24, says = "NONE, likewise: no such m.")
    private static void buildOfNoM() {
        Supplier<TripleSieve> made = () -> {
            TripleSieve y = Sentences.rich();
            y.turn(0, 2);
            y.set(2, 9);
            return y;
        };
        TripleSieve x = new TripleSieve();
        for (int m : new int[] {0, -1, 100, Integer.MIN_VALUE, Integer.MAX_VALUE}) {
            Sentences.due("build(" + m + ")", x.build(m), NONE);
            Sentences.due("count(10)", x.count(10), 0);
            Sentences.dueNothing("build(" + m + ")", made, y -> y.build(m));
        }
    }

    @Sentence(promise = 24, says = "Of several reasons NONE goes ahead.")
    private static void buildForSeveralReasons() {
        TripleSieve x = Sentences.of("cells 1;key 1;key 2;");
        Sentences.due("build(0), by none", x.build(0), NONE);
        Sentences.due("build(100), by none", x.build(100), NONE);
        Sentences.due("build(-1), by none", x.build(-1), NONE);
    }

    @Sentence(promise = 24, says = "it is FILLED by that, and stays as it is, whatever is told later")
    private static void builtStays() {
        TripleSieve x = one(0xABC, 9);
        String before = seen(x);
        long number = Crafted.printed(16, 5, 5, 5, 0xABC);
        x.turn(0, 3);
        Sentences.due("told behind turn", x.told(number), 9);
        x.add(77, 1);
        x.gone(number);
        int[] others = {0, 2, 3, 8, 44, 1, 0};
        for (int what = 1; what <= 6; what++) {
            x.set(what, others[what]);
            Sentences.due("passes behind set(" + what + ", ..)", x.passes(number), true);
            Sentences.due("told behind set(" + what + ", ..)", x.told(number), 9);
            Sentences.due("a sieve as it was behind set(" + what + ", ..)", seen(x).equals(before), true);
        }
        x.build(0);
        Bytes.put("?", x);
        x.text();
        x.undo();
        Sentences.due("a sieve as it was", seen(x).equals(before), true);
    }

    @Sentence(promise = 24, says = "FILLED (if none is STUCK): each cell holds a PRINT and a VALUE, 0 at first.")
    private static void buildForgetsTheOldCells() {
        TripleSieve x = one(0xFFFF, 15);
        x.gone(x.key(0));
        x.add(Crafted.printed(16, 7, 7, 7, 1), 1);
        Sentences.due("build(1)", x.build(1), 1);
        for (int c = 0; c < 48; c++) {
            Sentences.due("filled(" + c + ", false)", x.filled(c, false), c == 7 ? 1 : 0);
            Sentences.due("filled(" + c + ", true)", x.filled(c, true), c == 7 ? 1 : 0);
        }
    }

    // ---- promise 25

    @Sentence(promise = 25, says = "7: bits of all its cells (each PRINTS and BITS)")
    private static void builtLeastAndMost() {
        TripleSieve x = Sentences.of("cells 1;prints 1;bits 0;seed 0;");
        x.build(1);
        Sentences.dueRow("built, least", facts(x), 0, 1, 1, 0, 0, 0, 1, 3);
        x = Sentences.of("cells 32;prints 16;bits 8;seed 999999999;spread free;");
        x.build(1);
        Sentences.dueRow("built, most", facts(x), 999999999, 32, 16, 8, 2, 0, 1, 2304);
        x = Sentences.of("bits 0;spread close;key 1;");
        x.build(1);
        Sentences.dueRow("built, BITS 0", facts(x), 1, 16, 8, 0, 1, 1, 1, 384);
    }

    @Sentence(promise = 25, says = "5: with how many KEYS it was FILLED")
    private static void builtWithHowMany() {
        TripleSieve x = Crafted.row(16);
        x.build(1);
        Sentences.due("built(5) of none", x.built(5), 0);
        for (int c = 0; c < 48; c++) {
            x.add(Crafted.single(16, c), 0);
        }
        Sentences.due("built(5) of none still", x.built(5), 0);
        x.build(1);
        Sentences.due("built(5) of 48", x.built(5), 48);
        x.gone(x.key(0));
        Sentences.due("built(5) of 48 still", x.built(5), 48);
    }

    @Sentence(promise = 25, says = "NONE: others, there is none.")
    private static void builtOthers() {
        TripleSieve x = new TripleSieve();
        for (int what = -1; what <= 8; what++) {
            Sentences.due("built(" + what + ") without", x.built(what), NONE);
        }
        x.build(1);
        Sentences.due("built(-1)", x.built(-1), NONE);
        Sentences.due("built(8)", x.built(8), NONE);
        for (int what : Sentences.FAR) {
            Sentences.due("built(" + what + ")", x.built(what), NONE);
        }
        Sentences.due("built(0)", x.built(0), 1);
        Sentences.due("built(7)", x.built(7), 576);
        x.text();
        for (int what = 0; what <= 7; what++) {
            Sentences.due("built(" + what + ") behind text()", x.built(what), NONE);
        }
    }

    // ---- promise 26

    @Sentence(promise = 26, says = "NONE: no such cell, no SIEVE.")
    private static void filledOfNone() {
        TripleSieve none = new TripleSieve();
        for (int c : new int[] {-1, 0, 47, 48, Integer.MIN_VALUE, Integer.MAX_VALUE}) {
            Sentences.due("filled(" + c + ", false) without", none.filled(c, false), NONE);
            Sentences.due("filled(" + c + ", true) without", none.filled(c, true), NONE);
        }
        for (int cells : new int[] {1, 2, 31, 32}) {
            TripleSieve x = Sentences.of("cells " + cells + ";");
            x.build(1);
            // THE SIEVE's own row counts, not the one that is told now
            x.set(1, 16);
            for (boolean value : new boolean[] {false, true}) {
                Sentences.due("filled(-1)", x.filled(-1, value), NONE);
                Sentences.due("filled(0)", x.filled(0, value), 0);
                Sentences.due("filled of the last", x.filled(3 * cells - 1, value), 0);
                Sentences.due("filled of one too many", x.filled(3 * cells, value), NONE);
                for (int c : Sentences.FAR) {
                    Sentences.due("filled(" + c + ")", x.filled(c, value), NONE);
                }
            }
        }
    }

    @Sentence(promise = 26, says = "no SIEVE")
    private static void filledBehindText() {
        TripleSieve x = one(0xABC, 9);
        Sentences.due("filled(5, false)", x.filled(5, false), 0xABC);
        x.text();
        Sentences.due("filled(5, false) behind text()", x.filled(5, false), NONE);
        Sentences.due("filled(5, true) behind text()", x.filled(5, true), NONE);
        x.build(1);
        Sentences.due("filled(5, false) built anew", x.filled(5, false), 0);
    }

    @Sentence(promise = 26, says = "The PRINT (value: the VALUE) that a cell of THE SIEVE holds")
    private static void filledLeastAndMost() {
        TripleSieve x = Sentences.of("cells 32;prints 16;bits 8;seed 0;spread free;");
        x.add(Crafted.printed(32, 95, 95, 95, 0xFFFF), 255);
        x.add(Crafted.printed(32, 0, 0, 0, 0x8000), 128);
        x.add(Crafted.printed(32, 1, 1, 1, 0), 0);
        x.build(1);
        for (int c = 0; c < 96; c++) {
            Sentences.due("filled(" + c + ", false)", x.filled(c, false), c == 95 ? 0xFFFF : c == 0 ? 0x8000 : 0);
            Sentences.due("filled(" + c + ", true)", x.filled(c, true), c == 95 ? 255 : c == 0 ? 128 : 0);
        }
    }

    @Sentence(promise = 26, says = "gets the KEY's PRINT xor the PRINTS of all other cells that the KEY TOUCHES")
    private static void filledBySums() {
        // KEY 0 goes by 0, then KEY 1 by 1, KEY 2 by 2: filled from the last one back
        TripleSieve x = Sentences.of("prints 16;bits 8;seed 0;spread free;");
        x.add(Crafted.printed(16, 0, 1, 2, 0x0F0F), 1);
        x.add(Crafted.printed(16, 1, 1, 1, 0x00FF), 2);
        x.add(Crafted.printed(16, 2, 2, 2, 0xF00F), 255);
        x.build(1);
        Sentences.dueRow("PRINTS", new long[] {x.filled(0, false), x.filled(1, false), x.filled(2, false)},
            0x0F0F ^ 0x00FF ^ 0xF00F, 0x00FF, 0xF00F);
        Sentences.dueRow("VALUES", new long[] {x.filled(0, true), x.filled(1, true), x.filled(2, true)}, 1 ^ 2 ^ 255, 2, 255);
        // a cell that stands twice among the THREE is none of the others
        x = Sentences.of("prints 16;bits 8;seed 0;spread free;");
        x.add(Crafted.printed(16, 1, 0, 1, 0x0F0F), 1);
        x.add(Crafted.printed(16, 1, 1, 1, 0x00FF), 2);
        x.build(1);
        Sentences.dueRow("PRINTS", new long[] {x.filled(0, false), x.filled(1, false)}, 0x0F0F, 0x00FF);
        Sentences.dueRow("VALUES", new long[] {x.filled(0, true), x.filled(1, true)}, 1, 2);
    }

    // ---- promise 27

    @Sentence(promise = 27, says = "Whether a number PASSES THE SIEVE; false without one.")
    private static void passesWithout() {
        TripleSieve x = Sentences.of("prints 16;seed 0;");
        long number = Crafted.ofHash(0, 0);
        Sentences.due("print", x.print(number), 0);
        Sentences.due("passes without", x.passes(number), false);
        x.build(1);
        Sentences.due("passes", x.passes(number), true);
        Sentences.tell(x, "prints 16;seed 0;");
        Sentences.due("passes behind text()", x.passes(number), false);
    }

    @Sentence(promise = 27, says = "a number PASSES if its PRINT is the xor of the PRINTS of the cells that it TOUCHES")
    private static void passesByEachBit() {
        TripleSieve x = Sentences.of("prints 16;bits 8;seed 0;spread free;");
        x.add(Crafted.printed(16, 0, 0, 0, 0x00FF), 1);
        x.add(Crafted.printed(16, 9, 9, 9, 0x0F0F), 2);
        x.add(Crafted.printed(16, 47, 47, 47, 0x3333), 4);
        x.build(1);
        int sum = 0x00FF ^ 0x0F0F ^ 0x3333;
        Sentences.due("passes", x.passes(Crafted.printed(16, 0, 9, 47, sum)), true);
        Sentences.due("told", x.told(Crafted.printed(16, 0, 9, 47, sum)), 7);
        for (int bit = 0; bit < 16; bit++) {
            Sentences.due("passes, bit " + bit + " other", x.passes(Crafted.printed(16, 0, 9, 47, sum ^ 1 << bit)), false);
        }
        // a cell twice among the THREE counts not at all, three times once
        Sentences.due("passes, a cell twice", x.passes(Crafted.printed(16, 0, 9, 0, 0x0F0F)), true);
        Sentences.due("passes, a cell twice", x.passes(Crafted.printed(16, 0, 9, 0, 0x00FF ^ 0x0F0F)), false);
        Sentences.due("told, a cell twice", x.told(Crafted.printed(16, 0, 9, 0, 5)), 2);
        Sentences.due("passes, a cell three times", x.passes(Crafted.printed(16, 47, 47, 47, 0x3333)), true);
        Sentences.due("passes, empty cells", x.passes(Crafted.printed(16, 20, 21, 22, 0)), true);
        Sentences.due("passes, empty cells", x.passes(Crafted.printed(16, 20, 21, 22, 1)), false);
    }

    @Sentence(promise = 27, says = "By its own SEED, CELLS, PRINTS, BITS, SPREAD")
    private static void passesByItsOwn() {
        // a SIEVE of PRINTS 1 asks for one bit, whatever is told now; and one of 16 for all
        TripleSieve x = Sentences.of("prints 1;seed 0;spread free;");
        x.build(1);
        x.set(2, 16);
        Sentences.due("passes, one bit", x.passes(Crafted.printed(16, 1, 2, 3, 0xFFFE)), true);
        Sentences.due("passes, one bit", x.passes(Crafted.printed(16, 1, 2, 3, 1)), false);
        x.build(1);
        x.set(2, 1);
        Sentences.due("passes, 16 bits", x.passes(Crafted.printed(16, 1, 2, 3, 0x8000)), false);
        Sentences.due("passes, 16 bits", x.passes(Crafted.printed(16, 1, 2, 3, 0)), true);
    }

    @Sentence(promise = 27, says = "By its own SEED, CELLS, PRINTS, BITS, SPREAD")
    private static void askedBetweenOtherCalls() {
        // each SETTING but BITS by itself is told otherwise, and a call made by it just ahead
        int[] others = {0, 15, 1, 0, 1, 0, 1};
        long stranger = Crafted.printed(16, 5, 1, 2, 0xABC);
        for (int what : new int[] {1, 2, 4, 6}) {
            TripleSieve x = one(0xABC, 9);
            long number = x.key(0);
            x.set(what, others[what]);
            x.print(7);
            Sentences.due("passes", x.passes(number), true);
            x.cell(7, 0);
            Sentences.due("passes of a stranger", x.passes(stranger), true);
            x.load(7);
            Sentences.due("told", x.told(number), 9);
            x.rank();
            Sentences.due("right()", x.right(), 1);
            x.core(-1);
            Sentences.due("strangers", x.strangers(stranger, 1, -1), 1);
            x.count(9);
            Sentences.due("strangers", x.strangers(stranger, 1, 0), 0);
        }
    }

    // ---- promise 28

    @Sentence(promise = 28, says = "What a number is ANSWERED; NONE without a SIEVE.")
    private static void toldWithout() {
        TripleSieve x = Sentences.of("bits 8;key 5 is 255;");
        Sentences.due("told without", x.told(5), NONE);
        x.build(9);
        Sentences.due("told", x.told(5), 255);
        Bytes.put("?", x);
        x.text();
        Sentences.due("told behind a FAULT", x.told(5), 255);
        x.text();
        Sentences.due("told behind text()", x.told(5), NONE);
        x.build(1);
        for (long number : new long[] {0, -1, Long.MIN_VALUE, Long.MAX_VALUE}) {
            Sentences.due("told by a SIEVE of no KEYS", x.told(number), 0);
        }
    }

    @Sentence(promise = 28, says = "it is ANSWERED the xor of their VALUES")
    private static void toldToStrangersToo() {
        TripleSieve x = one(0xABC, 9);
        Sentences.due("told to one that does not PASS", x.told(Crafted.printed(16, 5, 1, 2, 0)), 9);
        Sentences.due("passes", x.passes(Crafted.printed(16, 5, 1, 2, 0)), false);
        Sentences.due("told to one that TOUCHES others", x.told(Crafted.printed(16, 0, 1, 2, 0)), 0);
        x.set(3, 0);
        Sentences.due("set(3, 0) is refused", x.count(3), 4);
        x.gone(x.key(0));
        x.set(3, 0);
        Sentences.due("told by the SIEVE's own BITS", x.told(Crafted.printed(16, 5, 1, 2, 0)), 9);
    }

    // ---- promise 29

    @Sentence(promise = 29, says = "NONE without a SIEVE.")
    private static void rightWithout() {
        TripleSieve x = new TripleSieve();
        Sentences.due("right() of nothing", x.right(), NONE);
        x.add(5, 0);
        Sentences.due("right() without", x.right(), NONE);
        x.build(9);
        Sentences.due("right()", x.right(), 1);
        Sentences.tell(x, "key 5;");
        Sentences.due("right() behind text()", x.right(), NONE);
    }

    @Sentence(promise = 29, says = "How many KEYS (as they are now) PASS and are ANSWERED their VALUE")
    private static void rightFromNoneTo48() {
        TripleSieve x = Crafted.row(16);
        x.build(1);
        Sentences.due("right() of no KEYS", x.right(), 0);
        for (int c = 0; c < 48; c++) {
            x.add(Crafted.printed(16, c, c, c, 100 + c), 1);
        }
        Sentences.due("right() of KEYS that came later", x.right(), 0);
        x.build(1);
        Sentences.due("right() of 48", x.right(), 48);
        x.turn(0, 2);
        Sentences.due("right() with another VALUE", x.right(), 47);
        x.turn(47, 0);
        Sentences.due("right() with another VALUE", x.right(), 46);
        x.undo();
        x.undo();
        Sentences.due("right() behind undo", x.right(), 48);
        while (x.count(0) > 0) {
            x.gone(x.key(0));
        }
        Sentences.due("right() of no KEYS any more", x.right(), 0);
        // ANSWERED its VALUE, but it does not PASS
        x.add(Crafted.printed(16, 3, 3, 3, 0), 1);
        Sentences.due("right() of one that does not PASS", x.right(), 0);
        x.add(Crafted.printed(16, 1, 2, 3, 101 ^ 102 ^ 103), 1);
        Sentences.due("right() of one that came later and PASSES", x.right(), 1);
    }

    // ---- promise 30

    /** A SIEVE of no KEYS by 16 PRINTS: one PASSES if its PRINT is 0. */
    private static TripleSieve empty() {
        TripleSieve x = Sentences.of("prints 16;seed 0;spread free;");
        x.build(1);
        return x;
    }

    @Sentence(promise = 30, says = "(so many as span, 1 to 1000; they wrap)")
    private static void strangersOfEachSpan() {
        TripleSieve x = empty();
        long number = Crafted.ofHash(0x7777000011110000L, 0);
        Sentences.due("print", x.print(number), 0);
        Sentences.due("span 1", x.strangers(number, 1, -1), 1);
        Sentences.due("span 1", x.strangers(number, 1, 0), 0);
        Sentences.due("span 1 behind it", x.strangers(number + 1, 1, -1), 0);
        Sentences.due("span 1 ahead of it", x.strangers(number - 1, 1, -1), 0);
        Sentences.due("span 2", x.strangers(number - 1, 2, 0), 1);
        Sentences.due("span 999, just too short", x.strangers(number - 999, 999, -1), 0);
        Sentences.due("span 1000", x.strangers(number - 999, 1000, -1), 1);
        Sentences.due("span 1000, the last one", x.strangers(number - 999, 1000, 0), 999);
        Sentences.due("span 1000, the first one", x.strangers(number, 1000, 0), 0);
        Sentences.due("span 1000, just ahead", x.strangers(number - 1000, 1000, -1), 0);
    }

    @Sentence(promise = 30, says = "they wrap")
    private static void strangersWrap() {
        TripleSieve x = empty();
        x.set(2, 1);
        x.build(1);
        long most = Long.MAX_VALUE;
        int met = 0;
        for (int i = 0; i < 20; i++) {
            long number = most - 9 + i;
            boolean passes = (Crafted.slowHash(number, 0) ^ Crafted.slowHash(number, 0) >>> 32) % 2 == 0;
            if (passes) {
                Sentences.due("strangers over the most number", x.strangers(most - 9, 20, met), i);
                met++;
            }
            Sentences.due("passes", x.passes(number), passes);
        }
        Sentences.due("strangers over the most number, how many", x.strangers(most - 9, 20, -1), met);
        Sentences.due("some are behind it", x.strangers(most - 9, 20, met - 1) >= 10, true);
        Sentences.due("some are ahead of it", x.strangers(most - 9, 20, 0) < 10, true);
        Sentences.due("from -1 over 0", x.strangers(-1, 2, -1),
            (x.passes(-1) ? 1 : 0) + (x.passes(0) ? 1 : 0));
        // a KEY behind the wrap is no stranger
        long behind = most - 9 + x.strangers(most - 9, 20, met - 1);
        x.add(behind, 0);
        Sentences.due("strangers without that KEY", x.strangers(most - 9, 20, -1), met - 1);
    }

    @Sentence(promise = 30, says = "those that PASS and are no KEYS now")
    private static void strangersAreNoKeys() {
        TripleSieve x = one(0xABC, 9);
        long number = x.key(0);
        Sentences.due("a KEY", x.strangers(number, 1, -1), 0);
        x.gone(number);
        Sentences.due("no KEY any more", x.strangers(number, 1, -1), 1);
        Sentences.due("no KEY any more", x.strangers(number, 1, 0), 0);
        x.undo();
        Sentences.due("a KEY again", x.strangers(number, 1, -1), 0);
        Sentences.due("a KEY again", x.strangers(number, 1, 0), -2);
        // one that came later and PASSES, as the last of 48
        long later = Crafted.printed(16, 1, 2, 3, 0);
        Sentences.due("a stranger", x.strangers(later, 1, -1), 1);
        for (int k = 1; k < 47; k++) {
            x.add(k, 0);
        }
        x.add(later, 3);
        Sentences.due("count(0)", x.count(0), 48);
        Sentences.due("a KEY now", x.strangers(later, 1, -1), 0);
        Sentences.due("the first KEY", x.strangers(number, 1, -1), 0);
    }

    @Sentence(promise = 30, says = "how much the k-th is behind from; how many (k NONE); -2: not so many, others")
    private static void strangersOfEachK() {
        TripleSieve x = empty();
        x.set(2, 1);
        x.build(1);
        int n = x.strangers(0, 100, -1);
        int before = -1;
        for (int k = 0; k < n; k++) {
            int at = x.strangers(0, 100, k);
            Sentences.due("the k-th stands behind the one ahead", at > before, true);
            Sentences.due("the k-th PASSES", x.passes(at), true);
            before = at;
        }
        Sentences.due("strangers(.., n)", x.strangers(0, 100, n), -2);
        Sentences.due("strangers(.., -2)", x.strangers(0, 100, -2), -2);
        for (int k : Sentences.FAR) {
            Sentences.due("strangers(.., " + k + ")", x.strangers(0, 100, k), -2);
        }
        x = empty();
        long number = Crafted.ofHash(1, 0);
        Sentences.due("strangers(.., 0) of none", x.strangers(number, 1, 0), -2);
        Sentences.due("strangers(.., -1) of none", x.strangers(number, 1, -1), 0);
    }

    @Sentence(promise = 30, says = "NONE: no such span, no SIEVE.")
    private static void strangersOfNoSpan() {
        TripleSieve x = empty();
        for (int k : new int[] {-1, 0, 1}) {
            Sentences.due("span 0", x.strangers(0, 0, k), NONE);
            Sentences.due("span -1", x.strangers(0, -1, k), NONE);
            Sentences.due("span 1001", x.strangers(0, 1001, k), NONE);
            for (int span : Sentences.FAR) {
                Sentences.due("span " + span, x.strangers(0, span, k), NONE);
            }
        }
        TripleSieve none = new TripleSieve();
        for (int span : new int[] {1, 10, 1000}) {
            Sentences.due("strangers without", none.strangers(0, span, -1), NONE);
            Sentences.due("strangers without", none.strangers(0, span, 0), NONE);
        }
    }

    @Sentence(promise = 30, says = "Of several reasons NONE goes ahead.")
    private static void strangersForSeveralReasons() {
        TripleSieve x = empty();
        for (int k : new int[] {-2, 5000, Integer.MIN_VALUE, Integer.MAX_VALUE}) {
            Sentences.due("span 0, k " + k, x.strangers(0, 0, k), NONE);
            Sentences.due("span 1001, k " + k, x.strangers(0, 1001, k), NONE);
            Sentences.due("without, k " + k, new TripleSieve().strangers(0, 10, k), NONE);
            Sentences.due("without, span 0, k " + k, new TripleSieve().strangers(0, 0, k), NONE);
        }
    }

    // ---- promise 31

    @Sentence(promise = 31, says = "THE SIEVE is on SHELF k (0, 1), too (back: that of SHELF k is THE SIEVE): true")
    private static void shelfKeepsItsOwn() {
        TripleSieve x = one(0xABC, 9);
        String first = seen(x);
        Sentences.due("shelf(0, false)", x.shelf(0, false), true);
        Sentences.due("THE SIEVE is there still", seen(x).equals(first), true);
        x.turn(0, 3);
        x.set(5, 2);
        x.build(1);
        String second = seen(x);
        Sentences.due("another SIEVE", second.equals(first), false);
        Sentences.due("shelf(1, false)", x.shelf(1, false), true);
        x.gone(x.key(0));
        x.set(1, 2);
        x.build(1);
        String third = seen(x);
        Sentences.due("shelf(0, true)", x.shelf(0, true), true);
        Sentences.due("that of SHELF 0", seen(x).equals(first), true);
        Sentences.due("shelf(1, true)", x.shelf(1, true), true);
        Sentences.due("that of SHELF 1", seen(x).equals(second), true);
        Sentences.due("shelf(0, true) again", x.shelf(0, true), true);
        Sentences.due("that of SHELF 0 again", seen(x).equals(first), true);
        Sentences.due("one over the other", x.shelf(1, false), true);
        x.build(1);
        Sentences.due("THE SIEVE is the third", seen(x).equals(third), true);
        x.shelf(1, true);
        Sentences.due("that of SHELF 1 is the first now", seen(x).equals(first), true);
    }

    @Sentence(promise = 31, says = "(back: that of SHELF k is THE SIEVE): true")
    private static void shelfBackWhereNoneIs() {
        // by text() none is there, nor on SHELVES: so back brings none
        TripleSieve x = one(0xABC, 9);
        x.shelf(0, false);
        x.text();
        Sentences.due("shelf(0, true) behind text()", x.shelf(0, true), false);
        Sentences.due("count(10)", x.count(10), 0);
    }

    @Sentence(promise = 31, says = "false: no such SHELF, no SIEVE (back: none there).")
    private static void shelfRefused() {
        TripleSieve none = new TripleSieve();
        TripleSieve x = one(0xABC, 9);
        for (int k = 0; k < 2; k++) {
            Sentences.due("shelf(" + k + ", false), no SIEVE", none.shelf(k, false), false);
            Sentences.due("shelf(" + k + ", true), none there", none.shelf(k, true), false);
            Sentences.due("shelf(" + k + ", true), none there", x.shelf(k, true), false);
        }
        for (int k : new int[] {-1, 2, Integer.MIN_VALUE, Integer.MAX_VALUE}) {
            for (boolean back : new boolean[] {false, true}) {
                Sentences.due("shelf(" + k + ", " + back + ")", x.shelf(k, back), false);
                Sentences.due("shelf(" + k + ", " + back + ") without", none.shelf(k, back), false);
                Sentences.dueNothing("shelf(" + k + ", " + back + ")", Sentences::rich, y -> y.shelf(k, back));
            }
        }
        Sentences.due("count(10)", x.count(10), 1);
        Sentences.due("count(10)", none.count(10), 0);
        x.shelf(1, false);
        Sentences.due("shelf(0, true), on the other alone", x.shelf(0, true), false);
        Sentences.due("shelf(1, true)", x.shelf(1, true), true);
    }

    // ---- promise 32

    @Sentence(promise = 32, says = "In how many cells THE SIEVE and that on SHELF k hold other PRINTS, other VALUES or both")
    private static void unlikeInOneCell() {
        int[][] others = {{0xABC, 9, 0}, {0xABD, 9, 1}, {0xABC, 8, 1}, {0xABD, 8, 1}, {0, 9, 1}, {0xABC, 0, 1}, {0, 0, 1}};
        for (int[] o : others) {
            for (int k = 0; k < 2; k++) {
                TripleSieve x = one(0xABC, 9);
                x.shelf(k, false);
                x.gone(x.key(0));
                x.add(Crafted.printed(16, 5, 5, 5, o[0]), o[1]);
                x.build(1);
                Sentences.due("unlike(" + k + ") of " + o[0] + " and " + o[1], x.unlike(k), o[2]);
            }
        }
    }

    @Sentence(promise = 32, says = "In how many cells")
    private static void unlikeInAllCells() {
        TripleSieve x = Sentences.of("cells 32;prints 16;bits 8;seed 0;spread free;");
        x.build(1);
        x.shelf(1, false);
        Sentences.due("unlike(1) of two that are empty", x.unlike(1), 0);
        for (int c = 0; c < 48; c++) {
            x.add(Crafted.printed(32, c, c, c, 1), 0);
        }
        x.build(1);
        x.shelf(0, false);
        Sentences.due("unlike(1)", x.unlike(1), 48);
        for (int c = 0; c < 48; c++) {
            x.gone(x.key(0));
            x.add(Crafted.printed(32, 48 + c, 48 + c, 48 + c, 0), 255);
        }
        x.build(1);
        Sentences.due("unlike(0) in each of 96 cells", x.unlike(0), 96);
        Sentences.due("unlike(1)", x.unlike(1), 48);
    }

    @Sentence(promise = 32, says = "-2: these have not as many cells")
    private static void unlikeOfOtherRows() {
        TripleSieve x = Sentences.of("cells 16;");
        x.build(1);
        x.shelf(0, false);
        x.set(1, 15);
        Sentences.due("unlike(0), SETTINGS alone are other", x.unlike(0), 0);
        for (int cells : new int[] {1, 15, 17, 32}) {
            x.set(1, cells);
            x.build(1);
            Sentences.due("unlike(0) of " + cells, x.unlike(0), -2);
        }
        // as many cells, but all else is other
        x.set(1, 16);
        x.set(2, 1);
        x.set(3, 0);
        x.set(4, 99);
        x.set(6, 1);
        x.build(1);
        Sentences.due("unlike(0) of as many cells", x.unlike(0), 0);
    }

    @Sentence(promise = 32, says = "NONE: no such SHELF, no SIEVE, none there.")
    private static void unlikeOfNone() {
        TripleSieve x = new TripleSieve();
        int[] all = {-1, 0, 1, 2, Integer.MIN_VALUE, Integer.MAX_VALUE};
        for (int k : all) {
            Sentences.due("unlike(" + k + ") without", x.unlike(k), NONE);
        }
        x.build(1);
        for (int k : all) {
            Sentences.due("unlike(" + k + "), none there", x.unlike(k), NONE);
        }
        x.shelf(0, false);
        Sentences.due("unlike(0)", x.unlike(0), 0);
        Sentences.due("unlike(1), none there", x.unlike(1), NONE);
        x.shelf(1, false);
        Sentences.due("unlike(1)", x.unlike(1), 0);
        for (int k : new int[] {-1, 2, Integer.MIN_VALUE, Integer.MAX_VALUE}) {
            Sentences.due("unlike(" + k + ")", x.unlike(k), NONE);
        }
    }

    @Sentence(promise = 32, says = "Of several reasons NONE goes ahead.")
    private static void unlikeForSeveralReasons() {
        // what stood on SHELF 0 ahead of text() had other cells
        TripleSieve x = Sentences.of("cells 2;");
        x.build(1);
        x.shelf(0, false);
        x.text();
        Sentences.due("unlike(0), neither is there", x.unlike(0), NONE);
        x.build(1);
        Sentences.due("unlike(0), none there", x.unlike(0), NONE);
        // no such SHELF, where those that are there have other cells
        x.shelf(0, false);
        x.shelf(1, false);
        x.set(1, 3);
        x.build(1);
        Sentences.due("unlike(1)", x.unlike(1), -2);
        Sentences.due("unlike(2)", x.unlike(2), NONE);
        Sentences.due("unlike(-1)", x.unlike(-1), NONE);
    }

    // ---- what these tests need

    /** A SIEVE of one KEY in cell 5 of 48 alone, so that this cell holds its PRINT and VALUE. */
    private static TripleSieve one(int print, int value) {
        TripleSieve x = Crafted.row(16);
        x.add(Crafted.printed(16, 5, 5, 5, print), value);
        x.build(1);
        return x;
    }

    private static long[] facts(TripleSieve x) {
        long[] facts = new long[8];
        for (int what = 0; what < 8; what++) {
            facts[what] = x.built(what);
        }
        return facts;
    }

    /** THE SIEVE's facts, and its cells that are not 0. */
    private static String seen(TripleSieve x) {
        StringBuilder s = new StringBuilder();
        for (long fact : facts(x)) {
            s.append(fact).append(' ');
        }
        for (int c = 0; c < 8; c++) {
            s.append(x.filled(c, false)).append('/').append(x.filled(c, true)).append(' ');
        }
        return s.toString();
    }
}
