/** Boundary cases of promises 11 to 15: what a SEED makes of a number, and how KEYS lie on the ROW. */
public final class BoundsOfCellsTest {
    private static final int NONE = TripleSieve.NONE;
    private static final long[] NUMBERS = {0, 1, -1, Long.MIN_VALUE, Long.MAX_VALUE, 1L << 32, 999999999, -999999999};

    public static void main(String[] args) {
        Sentences.runAll(BoundsOfCellsTest.class);
    }

    // ---- promise 11

    @Sentence(promise = 11, says = "in 64 bits that wrap (zeros come in where bits are moved down)")
    private static void hashWraps() {
        TripleSieve x = new TripleSieve();
        int[] seeds = {0, 1, 2, 999999999, 1000000198};
        for (long number : NUMBERS) {
            for (int seed : seeds) {
                Sentences.due("hash(" + number + ", " + seed + ")", x.hash(number, seed), Crafted.slowHash(number, seed));
            }
        }
        for (int i = 0; i < 64; i++) {
            Sentences.due("hash of one bit", x.hash(1L << i, 0), Crafted.slowHash(1L << i, 0));
            Sentences.due("hash of all bits but low ones", x.hash(-1L << i, 0), Crafted.slowHash(-1L << i, 0));
        }
    }

    @Sentence(promise = 11, says = "MIX of (the number + MIX of the SEED)")
    private static void hashSumWraps() {
        TripleSieve x = new TripleSieve();
        // sums that are just 0, the most, the least
        for (int seed : new int[] {1, 7, 999999999, -1}) {
            long mix = Crafted.slowMix(seed);
            Sentences.due("hash, the sum is 0", x.hash(-mix, seed), 0);
            Sentences.due("hash, the sum is the most", x.hash(Long.MAX_VALUE - mix, seed), Crafted.slowMix(Long.MAX_VALUE));
            Sentences.due("hash, the sum is the least", x.hash(Long.MIN_VALUE - mix, seed), Crafted.slowMix(Long.MIN_VALUE));
        }
        Sentences.due("hash(0, 0)", x.hash(0, 0), 0);
    }

    @Sentence(promise = 11, says = "HASH of a number by a SEED (here any number).")
    private static void hashOfAnySeed() {
        TripleSieve x = new TripleSieve();
        int[] seeds = {-1, -2, Integer.MIN_VALUE, Integer.MAX_VALUE, 1000000000};
        for (long number : NUMBERS) {
            for (int seed : seeds) {
                Sentences.due("hash(" + number + ", " + seed + ")", x.hash(number, seed), Crafted.slowHash(number, seed));
            }
        }
        long before = x.hash(5, 3);
        x.set(4, 3);
        Sentences.due("hash does not ask for the SEED told", x.hash(5, 3), before);
        Sentences.due("hash does not ask for the SEED told", x.hash(5, 1), Crafted.slowHash(5, 1));
    }

    // ---- promise 12

    @Sentence(promise = 12, says = "NONE: another j.")
    private static void cellOfAnotherJ() {
        TripleSieve x = new TripleSieve();
        for (int spread = 0; spread < 3; spread++) {
            x.set(6, spread);
            Sentences.due("cell(5, -1)", x.cell(5, -1), NONE);
            Sentences.due("cell(5, 3)", x.cell(5, 3), NONE);
            for (int j : Sentences.FAR) {
                Sentences.due("cell(5, " + j + ")", x.cell(5, j), NONE);
            }
            for (int j = 0; j < 3; j++) {
                Sentences.due("cell(5, " + j + ") is there", x.cell(5, j) >= 0, true);
            }
        }
    }

    @Sentence(promise = 12, says = "apart: the j-th is j * CELLS + PART j * CELLS / 65536")
    private static void apartFirstAndLast() {
        for (int cells = 1; cells <= 32; cells++) {
            TripleSieve x = Sentences.of("cells " + cells + ";seed 0;");
            dueThree(x, Crafted.ofParts(0, 0, 0, 0, 0xFFFF), 0, cells, 2 * cells);
            dueThree(x, Crafted.ofParts(0, 0xFFFF, 0xFFFF, 0xFFFF, 0), cells - 1, 2 * cells - 1, 3 * cells - 1);
            // one cell's least PART, and one less
            int edge = Crafted.part(cells / 2, cells);
            int less = Math.max(edge - 1, 0);
            int c = cells / 2;
            int ahead = cells / 2 - (cells > 1 ? 1 : 0);
            dueThree(x, Crafted.ofParts(0, edge, less, edge, 0), c, cells + ahead, 2 * cells + c);
            dueThree(x, Crafted.ofParts(0, less, edge, less, 0), ahead, cells + c, 2 * cells + ahead);
        }
    }

    @Sentence(promise = 12, says = "close: the 0-th is PART 0 * 3 * CELLS / 65536, the j-th stands 1 + PART j * CELLS / 65536 cells behind the one ahead of it, going round the ROW")
    private static void closeGoesRound() {
        for (int cells = 1; cells <= 32; cells++) {
            int row = 3 * cells;
            TripleSieve x = Sentences.of("cells " + cells + ";seed 0;spread close;");
            dueThree(x, Crafted.ofParts(0, 0, 0, 0, 0), 0, 1, 2);
            dueThree(x, Crafted.ofParts(0, 0xFFFF, 0, 0, 0), row - 1, 0, 1);
            dueThree(x, Crafted.ofParts(0, Crafted.part(row - 2, row), 0, 0, 0), row - 2, row - 1, 0);
            dueThree(x, Crafted.ofParts(0, Crafted.part(row - 3, row), 0, 0, 0), row - 3, row - 2, row - 1);
            dueThree(x, Crafted.ofParts(0, 0, 0xFFFF, 0xFFFF, 0), 0, cells, 2 * cells);
            dueThree(x, Crafted.ofParts(0, 0xFFFF, 0xFFFF, 0xFFFF, 0), row - 1, cells - 1, 2 * cells - 1);
            dueThree(x, Crafted.ofParts(0, Crafted.part(cells, row), 0xFFFF, 0xFFFF, 0), cells, 2 * cells, 0);
            dueThree(x, Crafted.ofParts(0, Crafted.part(2 * cells, row), 0xFFFF, 0xFFFF, 0), 2 * cells, 0, cells);
        }
    }

    @Sentence(promise = 12, says = "free: the j-th is PART j * 3 * CELLS / 65536")
    private static void freeFirstAndLast() {
        for (int cells = 1; cells <= 32; cells++) {
            int row = 3 * cells;
            TripleSieve x = Sentences.of("cells " + cells + ";seed 0;spread free;");
            dueThree(x, Crafted.ofParts(0, 0, 0, 0, 0), 0, 0, 0);
            dueThree(x, Crafted.ofParts(0, 0xFFFF, 0xFFFF, 0xFFFF, 0), row - 1, row - 1, row - 1);
            dueThree(x, Crafted.ofParts(0, 0, 0xFFFF, 0, 0), 0, row - 1, 0);
            for (int c = 1; c < row; c++) {
                int edge = Crafted.part(c, row);
                dueThree(x, Crafted.ofParts(0, edge, edge - 1, edge, 0), c, c - 1, c);
            }
        }
    }

    @Sentence(promise = 12, says = "The ROW has 3 * CELLS cells, numbered from 0 on.")
    private static void cellsStayInTheRow() {
        for (int spread = 0; spread < 3; spread++) {
            for (int cells : new int[] {1, 2, 31, 32}) {
                TripleSieve x = new TripleSieve();
                x.set(1, cells);
                x.set(6, spread);
                int least = 3 * cells;
                int most = -1;
                for (long number = 0; number < 150; number++) {
                    for (int j = 0; j < 3; j++) {
                        int c = x.cell(number, j);
                        least = Math.min(least, c);
                        most = Math.max(most, c);
                    }
                }
                Sentences.due("least of all cells is there", least >= 0, true);
                Sentences.due("most of all cells is there", most < 3 * cells, true);
            }
        }
    }

    // ---- promise 13

    @Sentence(promise = 13, says = "PRINT: the lowest PRINTS bits of (the HASH xor (the HASH moved 32 bits down))")
    private static void printOfEachSize() {
        TripleSieve x = Sentences.of("seed 0;");
        long all = Crafted.ofHash(0x00000000FFFFFFFFL, 0);
        long none = Crafted.ofHash(-1L, 0);
        long high = Crafted.ofHash(0xFFFFFFFF00000000L, 0);
        long top = Crafted.ofHash(0x0000000000008000L, 0);
        long over = Crafted.ofHash(0xFFFF0000FFFF0000L, 0);
        for (int bits = 1; bits <= 16; bits++) {
            x.set(2, bits);
            Sentences.due("print, all bits of " + bits, x.print(all), (1 << bits) - 1);
            Sentences.due("print, no bits of " + bits, x.print(none), 0);
            Sentences.due("print, high bits of " + bits, x.print(high), (1 << bits) - 1);
            Sentences.due("print, bit 15 of " + bits, x.print(top), bits == 16 ? 0x8000 : 0);
            Sentences.due("print, bits from 16 on of " + bits, x.print(over), 0);
        }
        Sentences.due("print of the number 0", x.print(0), 0);
    }

    @Sentence(promise = 13, says = "PRINT of a number.")
    private static void printByTheSeedTold() {
        for (int seed : new int[] {0, 1, 999999999}) {
            TripleSieve x = Sentences.of("prints 16;seed " + seed + ";");
            for (long number : NUMBERS) {
                long h = Crafted.slowHash(number, seed);
                Sentences.due("print(" + number + "), SEED " + seed, x.print(number), (h ^ h >>> 32) & 65535);
            }
        }
    }

    // ---- promise 14

    @Sentence(promise = 14, says = "NONE: there is none such.")
    private static void loadOfNoCell() {
        for (int cells : new int[] {1, 2, 31, 32}) {
            TripleSieve x = Sentences.of("cells " + cells + ";key 1;");
            Sentences.due("load(-1)", x.load(-1), NONE);
            Sentences.due("load(" + 3 * cells + ")", x.load(3 * cells), NONE);
            Sentences.due("load(0) is there", x.load(0) >= 0, true);
            Sentences.due("load of the last is there", x.load(3 * cells - 1) >= 0, true);
            for (int c : Sentences.FAR) {
                Sentences.due("load(" + c + ")", x.load(c), NONE);
            }
        }
        TripleSieve x = Sentences.of("cells 32;key 1;");
        x.load(95);
        x.set(1, 31);
        Sentences.due("load(93) of a shorter ROW", x.load(93), NONE);
        x.undo();
        Sentences.due("load(93) of the longer ROW", x.load(93) >= 0, true);
    }

    @Sentence(promise = 14, says = "How many KEYS TOUCH a cell")
    private static void loadFromNoneTo48() {
        TripleSieve x = Crafted.row(32);
        Sentences.due("load(95) of none", x.load(95), 0);
        for (int n = 1; n <= 48; n++) {
            x.add(Crafted.single(32, 95, n), 0);
            Sentences.due("load(95)", x.load(95), n);
        }
        Sentences.due("load(94)", x.load(94), 0);
        Sentences.due("load(0)", x.load(0), 0);
    }

    @Sentence(promise = 14, says = "A number TOUCHES those cells that are an odd number of times among its THREE.")
    private static void touchedTwiceIsNotTouched() {
        // a, a, c and its like TOUCH c alone; a, a, a TOUCHES a; a, b, c all three
        int[][] threes = {{0, 0, 5}, {0, 5, 0}, {5, 0, 0}, {5, 5, 5}, {5, 0, 1}, {47, 47, 0}, {47, 0, 47}, {0, 47, 47}};
        int[][] touched = {{5}, {5}, {5}, {5}, {0, 1, 5}, {0}, {0}, {0}};
        for (int i = 0; i < threes.length; i++) {
            TripleSieve x = Crafted.row(16, Crafted.free(16, threes[i][0], threes[i][1], threes[i][2]));
            int[] loads = new int[48];
            for (int c : touched[i]) {
                loads[c] = 1;
            }
            for (int c = 0; c < 48; c++) {
                Sentences.due("load(" + c + "), case " + i, x.load(c), loads[c]);
            }
            Sentences.due("count(9)", x.count(9), 48 - touched[i].length);
        }
    }

    // ---- promise 15

    @Sentence(promise = 15, says = "How many pairs of KEYS there are that TOUCH the same cells.")
    private static void twinsFromNoneToAll() {
        TripleSieve x = Crafted.row(16);
        Sentences.due("twins() of none", x.twins(), 0);
        for (int n = 1; n <= 48; n++) {
            x.add(Crafted.free(16, 0, 20, 47, n), 0);
            Sentences.due("twins() of " + n, x.twins(), n * (n - 1) / 2);
        }
        TripleSieve y = Crafted.row(16);
        for (int n = 0; n < 48; n++) {
            y.add(Crafted.single(16, n), 0);
        }
        Sentences.due("twins() of 48 that lie in 48 cells", y.twins(), 0);
    }

    @Sentence(promise = 15, says = "that TOUCH the same cells")
    private static void twinsByCellsNotByThree() {
        TripleSieve x = Crafted.row(16, Crafted.free(16, 1, 2, 3), Crafted.free(16, 3, 1, 2));
        Sentences.due("twins(), the same cells in another order", x.twins(), 1);
        x = Crafted.row(16, Crafted.free(16, 1, 1, 3), Crafted.free(16, 3, 2, 2), Crafted.free(16, 3, 3, 3));
        Sentences.due("twins(), the same cell alone", x.twins(), 3);
        x = Crafted.row(16, Crafted.free(16, 1, 2, 3), Crafted.free(16, 1, 2, 4), Crafted.free(16, 0, 2, 3),
            Crafted.free(16, 1, 0, 3));
        Sentences.due("twins(), two cells of three", x.twins(), 0);
        x = Crafted.row(16, Crafted.free(16, 1, 2, 3), Crafted.single(16, 1), Crafted.single(16, 3));
        Sentences.due("twins(), one cell of three", x.twins(), 0);
        x = Crafted.row(16, Crafted.single(16, 1), Crafted.free(16, 1, 2, 3), Crafted.single(16, 3), Crafted.single(16, 2));
        Sentences.due("twins(), three of one cell", x.twins(), 0);
        // two pairs side by side
        x = Crafted.row(16, Crafted.single(16, 4), Crafted.single(16, 5), Crafted.single(16, 4, 1), Crafted.single(16, 5, 1));
        Sentences.due("twins(), two pairs", x.twins(), 2);
    }

    // ---- what these tests need

    private static void dueThree(TripleSieve x, long number, int a, int b, int c) {
        Sentences.dueRow("cell of " + number + ", " + x.count(1) + " CELLS",
            new long[] {x.cell(number, 0), x.cell(number, 1), x.cell(number, 2)}, a, b, c);
    }
}
