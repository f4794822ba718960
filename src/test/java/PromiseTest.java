import java.util.NoSuchElementException;

/** Each promise by itself: ordinary inputs, the edges that the document names, wrong inputs. */
public final class PromiseTest {
    private static final int NONE = TripleSieve.NONE;
    private static int wrong = 0;
    private static int asked = 0;

    public static void main(String[] args) {
        newObject();
        feedAndEnd();
        textTakesAll();
        textFaultsOfTokens();
        textFaultsOfNumbers();
        textTooMany();
        keyAndWorth();
        addAndGone();
        turnAndSet();
        hashCellPrint();
        spreads();
        loadAndTwins();
        peelByWays();
        peelWrong();
        coreAndLevel();
        rankOfSums();
        mendFewest();
        mendAfterChanges();
        tightAndPeels();
        wakeCells();
        buildAndBuilt();
        filledPassesTold();
        rightNow();
        strangersBehind();
        shelvesAndUnlike();
        undoActs();
        undoLimits();
        countAll();
        longChain();
        largestRow();
        fullTape();
        System.out.println(wrong == 0 ? asked + " answers are as due" : wrong + " answers are not as due");
        if (wrong != 0) {
            System.exit(1);
        }
    }

    private static void due(int promise, String call, long got, long want) {
        asked++;
        if (got != want) {
            wrong++;
            System.out.println("promise " + promise + ": " + call + " answered " + got + ", due is " + want);
        }
    }

    private static void due(int promise, String call, boolean got, boolean want) {
        due(promise, call, got ? 1 : 0, want ? 1 : 0);
    }

    /** The i-th answer is due to be the i-th number. */
    private static void dueRow(int promise, String call, long[] got, long... want) {
        due(promise, call + ": how many", got.length, want.length);
        for (int i = 0; i < got.length && i < want.length; i++) {
            due(promise, call + " at " + i, got[i], want[i]);
        }
    }

    private static boolean keyThrows(TripleSieve x, int k) {
        try {
            x.key(k);
            return false;
        } catch (NoSuchElementException e) {
            return true;
        }
    }

    private static int tell(TripleSieve x, String text) {
        Bytes.put(text, x);
        return x.text();
    }

    private static TripleSieve of(String text) {
        TripleSieve x = new TripleSieve();
        int keys = tell(x, text);
        due(4, "text() of " + text + " (0: no fault)", keys < 0 ? keys : 0, 0);
        return x;
    }

    private static int fault(int place, int kind) {
        return -2 - (8 * place + kind);
    }

    private static void dueFault(String text, int place, int kind) {
        TripleSieve x = of("cells 3;key 5;");
        x.add(6, 1);
        x.build(9);
        x.shelf(1, false);
        due(4, "text() of " + text, tell(x, text), fault(place, kind));
        due(4, "count(8) behind a fault", x.count(8), 0);
        due(4, "count(0) behind a fault", x.count(0), 2);
        due(4, "count(1) behind a fault", x.count(1), 3);
        due(4, "count(7) behind a fault", x.count(7), 1);
        due(4, "count(10) behind a fault", x.count(10), 1);
        due(4, "unlike(1) behind a fault", x.unlike(1), 0);
    }

    private static void newObject() {
        TripleSieve x = new TripleSieve();
        int[] counts = {0, 16, 8, 4, 1, 0, 0, 0, 0, 48, 0, NONE};
        for (int what = 0; what < counts.length; what++) {
            due(1, "count(" + what + ")", x.count(what), counts[what]);
        }
        due(1, "undo()", x.undo(), NONE);
        due(1, "built(0)", x.built(0), NONE);
        due(1, "shelf(0, true)", x.shelf(0, true), false);
        due(1, "shelf(1, true)", x.shelf(1, true), false);
        due(1, "key(0) throws", keyThrows(x, 0), true);
    }

    private static void feedAndEnd() {
        TripleSieve x = new TripleSieve();
        for (int i = 1; i <= 30; i++) {
            due(2, "feed", x.feed(0x20202020, 0x0A0A0A0A, 0x20202020, 0x20202020, 0x20202020), 20 * i);
        }
        due(2, "feed at 600", x.feed(0, 0, 0, 0, 0), NONE);
        due(2, "count(8)", x.count(8), 600);
        due(3, "end(601)", x.end(601), false);
        due(3, "end(-1)", x.end(-1), false);
        due(3, "end(least)", x.end(Integer.MIN_VALUE), false);
        due(3, "end(most)", x.end(Integer.MAX_VALUE), false);
        due(3, "count(8)", x.count(8), 600);
        due(3, "end(600)", x.end(600), true);
        due(3, "end(581)", x.end(581), true);
        due(2, "feed at 581", x.feed(0, 0, 0, 0, 0), NONE);
        due(3, "end(580)", x.end(580), true);
        due(2, "feed at 580", x.feed(0, 0, 0, 0, 0), 600);
        due(3, "end(580)", x.end(580), true);
        due(4, "text() of blanks", x.text(), 0);
        due(4, "count(8)", x.count(8), 0);
        due(3, "end(1) of nothing", x.end(1), false);
        due(3, "end(0) of nothing", x.end(0), true);
        // of each number the highest byte comes first: "key 12 is 3;" and then eight bytes that end takes off
        due(2, "feed", x.feed(0x6B657920, 0x31322069, 0x7320333B, 0xFFFFFFFF, 0), 20);
        due(3, "end(12)", x.end(12), true);
        due(4, "text()", x.text(), 1);
        due(5, "key(0)", x.key(0), 12);
        due(6, "worth(0)", x.worth(0), 3);
    }

    private static void textTakesAll() {
        TripleSieve x = of("cells 7;prints 9;bits 8;seed 123456789;way least;spread close;key 0 is 255;key 999999999;");
        int[] counts = {2, 7, 9, 8, 123456789, 2, 1};
        for (int what = 0; what < counts.length; what++) {
            due(4, "count(" + what + ")", x.count(what), counts[what]);
        }
        due(4, "key(0)", x.key(0), 0);
        due(4, "worth(0)", x.worth(0), 255);
        due(4, "key(1)", x.key(1), 999999999);
        due(4, "worth(1)", x.worth(1), 0);
        x.set(1, 32);
        due(4, "build(9)", x.build(9), 1);
        x.shelf(0, false);
        x.shelf(1, false);
        due(4, "text() without blanks", tell(x, "prints16;way stack;spread free;key3is4;key 2is 15;key004;"), 3);
        int[] others = {3, 16, 16, 4, 1, 1, 2, 0, 0};
        for (int what = 0; what < others.length; what++) {
            due(4, "count(" + what + ")", x.count(what), others[what]);
        }
        due(4, "key(0)", x.key(0), 3);
        due(4, "worth(0)", x.worth(0), 4);
        due(4, "key(2)", x.key(2), 4);
        due(4, "count(10)", x.count(10), 0);
        due(4, "shelf(0, true)", x.shelf(0, true), false);
        due(4, "shelf(1, true)", x.shelf(1, true), false);
        due(4, "undo()", x.undo(), NONE);
        due(4, "text() of blanks and bounds", tell(x, "\n cells\n1 ;\n\nprints 1;bits 0;seed 0;way queue;spread apart; "), 0);
        int[] least = {0, 1, 1, 0, 0, 0, 0};
        for (int what = 0; what < least.length; what++) {
            due(4, "count(" + what + ")", x.count(what), least[what]);
        }
        due(4, "text() of bounds", tell(x, "cells 32;prints 16;bits 8;seed 999999999;"), 0);
        int[] most = {0, 32, 16, 8, 999999999, 0, 0};
        for (int what = 0; what < most.length; what++) {
            due(4, "count(" + what + ")", x.count(what), most[what]);
        }
        due(4, "text() of nothing", x.text(), 0);
        due(4, "count(1)", x.count(1), 16);
    }

    private static void textFaultsOfTokens() {
        dueFault(";", 0, 1);
        dueFault("key 1;;", 6, 1);
        dueFault("key", 3, 1);
        dueFault("key 1", 5, 1);
        dueFault("key 1 \n", 7, 1);
        dueFault("key 1 is", 8, 1);
        dueFault("key 1 is 2", 10, 1);
        dueFault("key 1 is;", 8, 1);
        dueFault("key is 1;", 4, 1);
        dueFault("key 1 2;", 6, 1);
        dueFault("key 1 key 2;", 6, 1);
        dueFault("keys 1;", 0, 1);
        dueFault("keyz 1;", 0, 1);
        dueFault("hey 1;", 0, 1);
        dueFault("ke 1;", 0, 1);
        dueFault("Key 1;", 0, 1);
        dueFault("key\t1;", 3, 1);
        dueFault("key\r1;", 3, 1);
        dueFault("key -1;", 4, 1);
        dueFault("key 1;\0", 6, 1);
        dueFault("key 1;" + (char) 235, 6, 1);
        dueFault("key 1;" + (char) 187, 6, 1);
        dueFault("{", 0, 1);
        dueFault("`", 0, 1);
        dueFault("key :", 4, 1);
        dueFault("key /", 4, 1);
        dueFault("key 0123456789;", 4, 1);
        dueFault("key 1 is 0000000001;", 9, 1);
        dueFault("spreads free;", 0, 1);
        dueFault("5;", 0, 1);
        dueFault("cells cells;", 6, 1);
        dueFault("cells;", 5, 1);
        dueFault("cells 4 key 1;", 8, 1);
        dueFault("cells 4;cells 4;", 8, 1);
        dueFault("prints 4;cells 4;", 9, 1);
        dueFault("bits 4;prints 4;", 7, 1);
        dueFault("seed 4;bits 4;", 7, 1);
        dueFault("way queue;seed 4;", 10, 1);
        dueFault("spread free;way queue;", 12, 1);
        dueFault("key 1;spread free;", 6, 1);
        dueFault("way 0;", 4, 1);
        dueFault("way;", 3, 1);
        dueFault("way free;", 4, 1);
        dueFault("way queues;", 4, 1);
        dueFault("way queue", 9, 1);
        dueFault("spread queue;", 7, 1);
        dueFault("spread clos;", 7, 1);
        dueFault("spread free key 1;", 12, 1);
        dueFault("is 1;", 0, 1);
        dueFault("queue;", 0, 1);
    }

    private static void textFaultsOfNumbers() {
        dueFault("key 7;key 8;key 7;", 16, 2);
        dueFault("key 7;key 007 is 99;", 10, 2);
        dueFault("key 7;key 7", 10, 2);
        dueFault("cells 0;", 6, 3);
        dueFault("cells 33;", 6, 3);
        dueFault("cells 33", 6, 3);
        dueFault("prints 0;", 7, 3);
        dueFault("prints 17;", 7, 3);
        dueFault("bits 9;", 5, 3);
        dueFault("seed 1000000000;", 5, 1);
        dueFault("key 1 is 16;", 9, 3);
        dueFault("bits 0;key 1 is 1;", 16, 3);
        dueFault("bits 8;key 1 is 256;", 16, 3);
        dueFault("key 1 is 999999999;key 1;", 9, 3);
        dueFault("cells 99;?", 6, 3);
        dueFault("? cells 99;", 0, 1);
    }

    private static String keys(int n) {
        StringBuilder s = new StringBuilder();
        for (int k = 0; k < n; k++) {
            s.append("key ").append(k).append(';');
        }
        return s.toString();
    }

    private static void textTooMany() {
        TripleSieve x = new TripleSieve();
        due(4, "text() of 48 KEYS", tell(x, keys(48)), 48);
        due(4, "key(47)", x.key(47), 47);
        due(4, "key(48) throws", keyThrows(x, 48), true);
        int place = keys(48).length();
        due(4, "text() of 49 KEYS", tell(x, keys(49)), fault(place, 4));
        due(4, "text() of 48 KEYS and the WORD", tell(x, keys(48) + "  key"), fault(place + 2, 4));
        due(4, "text() of 48 KEYS and one told", tell(x, keys(48) + "key 1;"), fault(place, 4));
        due(4, "text() of 48 KEYS and a wrong WORD", tell(x, keys(48) + "is"), fault(place, 1));
        due(4, "count(0)", x.count(0), 48);
    }

    private static void keyAndWorth() {
        TripleSieve x = of("bits 5;key 40 is 31;key 30;key 20 is 7;");
        dueRow(5, "key", new long[] {x.key(0), x.key(1), x.key(2)}, 40, 30, 20);
        dueRow(6, "worth", new long[] {x.worth(0), x.worth(1), x.worth(2)}, 31, 0, 7);
        for (int k : new int[] {3, -1, 47, 48, Integer.MIN_VALUE, Integer.MAX_VALUE}) {
            due(5, "key(" + k + ") throws", keyThrows(x, k), true);
            due(6, "worth(" + k + ")", x.worth(k), NONE);
        }
    }

    private static void addAndGone() {
        TripleSieve x = new TripleSieve();
        due(7, "add", x.add(Long.MIN_VALUE, 15), 1);
        due(7, "add", x.add(-1, 0), 2);
        due(7, "add of a KEY", x.add(-1, 3), -2);
        due(7, "add of a KEY with a wrong VALUE", x.add(-1, 16), NONE);
        due(7, "add of a VALUE below 0", x.add(5, -1), NONE);
        due(7, "add of a VALUE too high", x.add(5, 16), NONE);
        due(7, "count(7)", x.count(7), 2);
        due(7, "key(0)", x.key(0), Long.MIN_VALUE);
        due(7, "worth(0)", x.worth(0), 15);
        for (int k = 2; k < 48; k++) {
            due(7, "add", x.add(1000 + k, 1), k + 1);
        }
        due(7, "add to 48", x.add(5, 0), NONE);
        due(7, "add of a KEY to 48", x.add(-1, 0), NONE);
        due(7, "count(0)", x.count(0), 48);
        due(8, "gone of none", x.gone(5), NONE);
        due(8, "gone", x.gone(-1), 1);
        due(8, "gone again", x.gone(-1), NONE);
        due(8, "count(0)", x.count(0), 47);
        due(8, "key(1)", x.key(1), 1002);
        due(8, "worth(1)", x.worth(1), 1);
        due(8, "key(46)", x.key(46), 1047);
        due(8, "gone of the last", x.gone(1047), 46);
        due(8, "gone of the first", x.gone(Long.MIN_VALUE), 0);
        due(8, "key(0)", x.key(0), 1002);
        due(7, "add behind all", x.add(-1, 9), 46);
        due(7, "key(45)", x.key(45), -1);
        due(7, "worth(45)", x.worth(45), 9);
    }

    private static void turnAndSet() {
        TripleSieve x = of("key 1 is 5;key 2 is 3;");
        due(9, "turn", x.turn(0, 15), 5);
        due(9, "turn as it was", x.turn(0, 15), 15);
        due(9, "worth(0)", x.worth(0), 15);
        due(9, "worth(1)", x.worth(1), 3);
        due(9, "count(7)", x.count(7), 2);
        due(9, "turn of no KEY", x.turn(2, 0), NONE);
        due(9, "turn of no KEY", x.turn(-1, 0), NONE);
        due(9, "turn to no VALUE", x.turn(0, 16), NONE);
        due(9, "turn to no VALUE", x.turn(0, -1), NONE);
        due(9, "count(7)", x.count(7), 2);
        due(10, "BITS too few", x.set(3, 3), NONE);
        due(9, "turn", x.turn(0, 8), 15);
        due(10, "BITS by which the VALUE just can't be", x.set(3, 3), NONE);
        due(9, "turn", x.turn(0, 7), 8);
        due(10, "BITS by which the VALUE just can be", x.set(3, 3), 4);
        due(10, "BITS as they were", x.set(3, 4), 3);
        due(10, "BITS more", x.set(3, 8), 4);
        due(9, "turn", x.turn(1, 255), 3);
        due(10, "BITS too few for the last", x.set(3, 7), NONE);
        int[] least = {0, 1, 1, 0, 0, 0, 0};
        int[] most = {0, 32, 16, 8, 999999999, 2, 2};
        TripleSieve y = new TripleSieve();
        for (int what = 1; what <= 6; what++) {
            int was = y.count(what);
            due(10, "set(" + what + ", too low)", y.set(what, least[what] - 1), NONE);
            due(10, "set(" + what + ", too high)", y.set(what, most[what] + 1), NONE);
            due(10, "count(" + what + ")", y.count(what), was);
            due(10, "set(" + what + ", least)", y.set(what, least[what]), was);
            due(10, "set(" + what + ", most)", y.set(what, most[what]), least[what]);
            due(10, "count(" + what + ")", y.count(what), most[what]);
        }
        for (int what : new int[] {0, -1, 7, Integer.MAX_VALUE, Integer.MIN_VALUE}) {
            due(10, "set(" + what + ", 1)", y.set(what, 1), NONE);
        }
        due(10, "count(7)", y.count(7), 12);
        due(10, "set as it was", new TripleSieve().set(1, 16), 16);
    }

    private static void hashCellPrint() {
        TripleSieve x = of("seed 5;");
        due(11, "hash", x.hash(0, 0), 0);
        due(11, "hash", x.hash(1, 0), 6238072747940578789L);
        due(11, "hash", x.hash(2, 0), -2606959012126976886L);
        due(11, "hash", x.hash(1, 1), -2756458260177122986L);
        due(11, "hash of a SEED below 0", x.hash(-1, -1), -7091791862504506861L);
        due(11, "hash of another SEED than is told", x.hash(1, 0), 6238072747940578789L);
        // of 1 by SEED 0: 0x5692161D100B05E5, so PARTS 0x100B, 0x161D, 0x5692 and 0x4699 13F8 for PRINTS
        x.set(4, 0);
        due(12, "cell(1, 0)", x.cell(1, 0), 0x100B * 16 / 65536);
        due(12, "cell(1, 1)", x.cell(1, 1), 16 + 0x161D * 16 / 65536);
        due(12, "cell(1, 2)", x.cell(1, 2), 32 + 0x5692 * 16 / 65536);
        due(12, "cell(1, 3)", x.cell(1, 3), NONE);
        due(12, "cell(1, -1)", x.cell(1, -1), NONE);
        due(12, "cell(1, most)", x.cell(1, Integer.MAX_VALUE), NONE);
        int fold = 0x05E5 ^ 0x161D;
        due(13, "print(1)", x.print(1), fold & 255);
        for (int bits = 1; bits <= 16; bits++) {
            x.set(2, bits);
            due(13, "print(1) of " + bits, x.print(1), fold & (1 << bits) - 1);
        }
        due(13, "print(0)", x.print(0), 0);
    }

    private static void spreads() {
        TripleSieve x = of("cells 10;seed 0;");
        int[] part = {0x100B, 0x161D, 0x5692};
        for (int cells = 1; cells <= 32; cells++) {
            x.set(1, cells);
            x.set(6, 0);
            for (int j = 0; j < 3; j++) {
                due(12, "apart", x.cell(1, j), j * cells + part[j] * cells / 65536);
            }
            x.set(6, 1);
            int at = part[0] * 3 * cells / 65536;
            due(12, "close", x.cell(1, 0), at);
            at = (at + 1 + part[1] * cells / 65536) % (3 * cells);
            due(12, "close", x.cell(1, 1), at);
            at = (at + 1 + part[2] * cells / 65536) % (3 * cells);
            due(12, "close", x.cell(1, 2), at);
            x.set(6, 2);
            for (int j = 0; j < 3; j++) {
                due(12, "free", x.cell(1, j), part[j] * 3 * cells / 65536);
            }
        }
        // of 3 by SEED 0 the row is gone round
        x = of("cells 2;seed 0;spread close;");
        dueRow(12, "close, round the ROW", new long[] {x.cell(3, 0), x.cell(3, 1), x.cell(3, 2)}, 5, 0, 1);
    }

    private static long[] loads(TripleSieve x) {
        long[] loads = new long[3 * x.count(1)];
        for (int c = 0; c < loads.length; c++) {
            loads[c] = x.load(c);
        }
        return loads;
    }

    private static void loadAndTwins() {
        TripleSieve x = of("cells 1;key 1;key 2;key 3;");
        dueRow(14, "load", loads(x), 3, 3, 3);
        due(14, "load(3)", x.load(3), NONE);
        due(14, "load(-1)", x.load(-1), NONE);
        due(14, "load(most)", x.load(Integer.MAX_VALUE), NONE);
        due(15, "twins()", x.twins(), 3);
        x.add(4, 0);
        due(15, "twins()", x.twins(), 6);
        // 0 by SEED 0 is three times in cell 0, and so TOUCHES it
        x = of("seed 0;spread free;key 0;");
        due(14, "load(0)", x.load(0), 1);
        due(14, "load(1)", x.load(1), 0);
        due(34, "count(9)", x.count(9), 47);
        // free, cells 1, SEED 0: 1 is 0, 0, 1 and TOUCHES 1 alone
        x = of("cells 1;seed 0;spread free;key 1;key 0;");
        dueRow(12, "cell", new long[] {x.cell(1, 0), x.cell(1, 1), x.cell(1, 2)}, 0, 0, 1);
        dueRow(14, "load", loads(x), 1, 1, 0);
        due(15, "twins()", x.twins(), 0);
        due(34, "count(9)", x.count(9), 1);
        // 3 and 6 TOUCH all three cells, 4 cell 2 alone
        x = of("cells 1;seed 0;spread free;key 3;key 4;");
        due(15, "twins()", x.twins(), 0);
        x.add(6, 0);
        due(15, "twins()", x.twins(), 1);
    }

    private static long[] order(TripleSieve x) {
        long[] order = new long[2 * x.peel(NONE, 0)];
        for (int i = 0; i < order.length; i++) {
            order[i] = x.peel(i / 2, i % 2);
        }
        return order;
    }

    private static void peelByWays() {
        TripleSieve x = of("cells 2;bits 3;seed 0;spread close;key 2 is 1;key 3 is 2;key 4 is 3;key 10 is 4;");
        dueRow(14, "load", loads(x), 2, 2, 2, 2, 1, 3);
        dueRow(16, "queue", order(x), 0, 4, 1, 1, 2, 2, 3, 0);
        x.set(5, 1);
        dueRow(16, "stack", order(x), 0, 4, 2, 2, 3, 3, 1, 5);
        x.set(5, 2);
        dueRow(16, "least", order(x), 0, 4, 1, 1, 3, 0, 2, 2);
        x = of("cells 4;bits 3;key 1;key 2;key 3;key 4;key 5;key 6;");
        dueRow(16, "queue", order(x), 2, 1, 4, 7, 3, 8, 5, 10, 1, 6, 0, 4);
        x.set(5, 1);
        dueRow(16, "stack", order(x), 4, 9, 5, 3, 2, 10, 0, 4, 1, 11, 3, 6);
        x.set(5, 2);
        dueRow(16, "least", order(x), 2, 1, 4, 7, 5, 3, 0, 4, 3, 8, 1, 0);
    }

    private static void peelWrong() {
        TripleSieve x = of("cells 9;key 1;key 2;");
        due(16, "peel(-1, 0)", x.peel(-1, 0), 2);
        due(16, "peel(-1, 1)", x.peel(-1, 1), NONE);
        due(16, "peel(-1, 2)", x.peel(-1, 2), NONE);
        due(16, "peel(-2, 0)", x.peel(-2, 0), NONE);
        due(16, "peel(2, 0)", x.peel(2, 0), NONE);
        due(16, "peel(2, 1)", x.peel(2, 1), NONE);
        due(16, "peel(0, 2)", x.peel(0, 2), NONE);
        due(16, "peel(0, -1)", x.peel(0, -1), NONE);
        due(16, "peel(most, 0)", x.peel(Integer.MAX_VALUE, 0), NONE);
    }

    private static void coreAndLevel() {
        TripleSieve x = of("cells 2;bits 3;seed 0;spread close;key 0;key 2 is 1;key 3 is 2;key 4 is 3;key 10 is 4;");
        due(17, "core(-1)", x.core(-1), 4);
        dueRow(17, "core", new long[] {x.core(0), x.core(1), x.core(2), x.core(3)}, 0, 2, 3, 4);
        for (int i : new int[] {4, -2, 48, Integer.MIN_VALUE, Integer.MAX_VALUE}) {
            due(17, "core(" + i + ")", x.core(i), -2);
        }
        dueRow(18, "level", new long[] {x.level(0), x.level(1), x.level(2), x.level(3), x.level(4), x.level(-1)},
            -2, 1, -2, -2, -2, 1);
        for (int k : new int[] {5, -2, 48, Integer.MIN_VALUE, Integer.MAX_VALUE}) {
            due(18, "level(" + k + ")", x.level(k), NONE);
        }
        x.gone(0);
        due(17, "core(-1)", x.core(-1), 0);
        due(17, "core(0)", x.core(0), -2);
        dueRow(18, "level", new long[] {x.level(0), x.level(1), x.level(2), x.level(3), x.level(-1)}, 1, 2, 2, 3, 3);
        x.set(1, 1);
        due(17, "core(-1) of one BLOCK", x.core(-1), 4);
        due(18, "level(-1) of one BLOCK", x.level(-1), 0);
        due(18, "level(0) of one BLOCK", x.level(0), -2);
    }

    /** RANK as the numbers come one by one. */
    private static long[] ranks(String text, long... numbers) {
        TripleSieve x = of(text);
        long[] ranks = new long[numbers.length];
        for (int i = 0; i < numbers.length; i++) {
            x.add(numbers[i], 0);
            ranks[i] = x.rank();
        }
        return ranks;
    }

    private static void rankOfSums() {
        due(19, "rank() of none", new TripleSieve().rank(), 0);
        TripleSieve x = of("cells 1;key 1;key 2;key 3;");
        due(19, "rank() of twins", x.rank(), 1);
        x = of("cells 2;bits 3;seed 0;spread close;key 0;key 2;key 3;key 4;key 10;");
        due(19, "rank() with a core", x.rank(), 5);
        x = of("cells 1;seed 0;spread free;key 0;key 1;");
        due(19, "rank() of single cells", x.rank(), 2);
        // {0,1,2} {2} {0,1,2} {1} {0} {1}
        dueRow(19, "rank() of sums", ranks("cells 1;seed 0;spread free;", 3, 4, 6, 9, 0, 1), 1, 2, 2, 3, 3, 3);
        // {0} {64} {64} {63} {63,64,68} {95} {31}
        dueRow(19, "rank() of far cells", ranks("cells 32;seed 0;spread free;", 0, 5406, 10424, 2211, 361, 765, 6270),
            1, 2, 2, 3, 4, 5, 6);
        dueRow(19, "rank() in cells 62 to 68", ranks("cells 32;seed 0;spread free;",
            361, 1432, 8531, 12014, 15064, 25667, 29264, 40042, 43584, 43620, 47527, 47700),
            1, 2, 3, 4, 5, 6, 6, 7, 7, 7, 7, 7);
        x = of("cells 32;" + keys(48));
        due(19, "rank() of 48", x.rank(), 48);
        x.set(1, 16);
        due(19, "rank() of 48 in 48 cells", x.rank(), 44);
        x.set(1, 5);
        due(19, "rank() of 48 in 15 cells", x.rank(), 13);
        x.set(6, 2);
        due(19, "rank() of 48 in 15 cells, free", x.rank(), 15);
    }

    private static long[] mends(TripleSieve x) {
        return new long[] {x.mend(-1), x.mend(0), x.mend(1), x.mend(2), x.mend(3), x.mend(-2)};
    }

    private static void mendFewest() {
        dueRow(20, "mend of none", mends(new TripleSieve()), 0, -2, -2, -2, -2, -2);
        TripleSieve x = of("cells 1;key 9;key 8;");
        dueRow(20, "mend of two twins", mends(x), 1, 0, -2, -2, -2, -2);
        x.add(7, 0);
        dueRow(20, "mend of three twins", mends(x), 2, 0, 1, -2, -2, -2);
        x.add(6, 0);
        dueRow(20, "mend of four twins", mends(x), 3, 0, 1, 2, -2, -2);
        x.add(5, 0);
        dueRow(20, "mend of five twins", mends(x), -2, -2, -2, -2, -2, -2);
        x = of("cells 2;bits 3;seed 0;spread close;key 0;key 2;key 3;key 4;key 10;");
        dueRow(20, "mend", mends(x), 1, 0, -2, -2, -2, -2);
        due(20, "mend(most)", x.mend(Integer.MAX_VALUE), -2);
        due(20, "mend(least)", x.mend(Integer.MIN_VALUE), -2);
        x = of("cells 4;seed 2;" + keys(7));
        dueRow(20, "mend by two that are not the first", mends(x), 2, 2, 4, -2, -2, -2);
        x = of("cells 5;spread free;" + keys(14));
        dueRow(20, "mend by two, free", mends(x), 2, 2, 6, -2, -2, -2);
        x = of("cells 3;seed 4;" + keys(10));
        dueRow(20, "mend by three", mends(x), 3, 1, 3, 8, -2, -2);
        x = of("cells 4;seed 3;spread close;" + keys(13));
        dueRow(20, "mend by three, close", mends(x), 3, 1, 5, 7, -2, -2);
        x = of("cells 1;" + keys(48));
        due(20, "mend(-1) of 48 twins", x.mend(-1), -2);
    }

    /** What was found for other KEYS and SETTINGS is never told again. */
    private static void mendAfterChanges() {
        TripleSieve x = of("cells 1;key 9;key 8;");
        due(20, "mend(-1)", x.mend(-1), 1);
        x.set(1, 16);
        due(20, "mend(-1) behind set", x.mend(-1), 0);
        x.undo();
        due(20, "mend(-1) behind undo", x.mend(-1), 1);
        x.add(7, 0);
        due(20, "mend(-1) behind add", x.mend(-1), 2);
        x.gone(9);
        due(20, "mend(-1) behind gone", x.mend(-1), 1);
        tell(x, "cells 1;key 1;key 2;key 3;key 4;");
        due(20, "mend(-1) behind text", x.mend(-1), 3);
        x.tight();
        x.peels(3);
        due(20, "mend(2) behind other SEEDS", x.mend(2), 2);
    }

    private static void tightAndPeels() {
        due(21, "tight() of none", new TripleSieve().tight(), 1);
        due(22, "peels(200) of none", new TripleSieve().peels(200), 200);
        TripleSieve x = of("seed 3;spread free;" + keys(48));
        due(21, "tight(), and more CELLS that don't do", x.tight(), 24);
        due(21, "count(1)", x.count(1), 16);
        due(22, "peels(200)", x.peels(200), 0);
        x = of("cells 1;seed 3;spread close;" + keys(30));
        due(21, "tight(), close", x.tight(), 12);
        x = of("seed 269;" + keys(48));
        due(21, "tight() by none", x.tight(), -2);
        x = of("seed 5588;spread close;" + keys(48));
        due(21, "tight() by the most CELLS alone", x.tight(), 32);
        x = of("seed 3;" + keys(30));
        dueRow(22, "peels", new long[] {x.peels(1), x.peels(2), x.peels(10), x.peels(200)}, 0, 1, 7, 163);
        for (int m : new int[] {0, -1, 201, Integer.MIN_VALUE, Integer.MAX_VALUE}) {
            due(22, "peels(" + m + ")", x.peels(m), NONE);
        }
        due(22, "count(4)", x.count(4), 3);
        due(22, "count(7)", x.count(7), 0);
    }

    private static final String FIVE = "key 5 is 9;key 6 is 1;key 7 is 15;key 8 is 8;key 9 is 3;";

    private static void wakeCells() {
        TripleSieve x = of("cells 3;prints 4;seed 11;" + FIVE);
        long[][] wakes = {{1, 2, 2, 1, 1}, {1, 2, 2, 2, 1}, {5, 4, 2, 1, 1}};
        for (int way = 0; way < 3; way++) {
            x.set(5, way);
            for (int k = 0; k < 5; k++) {
                due(23, "wake(" + k + ", 0), way " + way, x.wake(k, 0), wakes[way][k]);
                due(23, "wake(" + k + ", 7), way " + way, x.wake(k, 7), wakes[way][k]);
                due(23, "wake(" + k + ") as it is", x.wake(k, x.worth(k)), 0);
            }
        }
        due(23, "worth(0)", x.worth(0), 9);
        due(23, "count(10)", x.count(10), 0);
        due(23, "wake(5, 0)", x.wake(5, 0), NONE);
        due(23, "wake(-1, 0)", x.wake(-1, 0), NONE);
        due(23, "wake(0, 16)", x.wake(0, 16), NONE);
        due(23, "wake(0, -1)", x.wake(0, -1), NONE);
        x.set(1, 1);
        due(23, "wake(0, 0), STUCK", x.wake(0, 0), -2);
        due(23, "wake(0, 9) as it is, STUCK", x.wake(0, 9), -2);
        due(23, "wake(5, 0), STUCK", x.wake(5, 0), NONE);
        due(23, "wake(0, 16), STUCK", x.wake(0, 16), NONE);
    }

    private static long[] facts(TripleSieve x) {
        long[] facts = new long[8];
        for (int what = 0; what < 8; what++) {
            facts[what] = x.built(what);
        }
        return facts;
    }

    private static void buildAndBuilt() {
        TripleSieve x = of("seed 3;spread close;" + keys(40));
        due(24, "build(6), by none", x.build(6), -2);
        due(24, "count(10)", x.count(10), 0);
        due(25, "built(0)", x.built(0), NONE);
        due(24, "build(7)", x.build(7), 7);
        dueRow(25, "built", facts(x), 9, 16, 8, 4, 1, 40, 7, 576);
        due(24, "count(4)", x.count(4), 3);
        for (int what : new int[] {8, -1, Integer.MIN_VALUE, Integer.MAX_VALUE}) {
            due(25, "built(" + what + ")", x.built(what), NONE);
        }
        for (int m : new int[] {0, -1, 100, Integer.MIN_VALUE, Integer.MAX_VALUE}) {
            due(24, "build(" + m + ")", x.build(m), NONE);
        }
        x.set(1, 2);
        x.set(2, 3);
        due(24, "build(99), by none", x.build(99), -2);
        dueRow(25, "built, as ahead", facts(x), 9, 16, 8, 4, 1, 40, 7, 576);
        x = of("cells 6;prints 3;bits 4;seed 999999999;spread free;"
            + "key 5 is 9;key 6 is 1;key 7 is 15;key 8 is 8;key 9 is 3;key 100 is 12;");
        due(24, "build(5)", x.build(5), 2);
        dueRow(25, "built by a SEED that can't be told", facts(x), 1000000000, 6, 3, 4, 2, 6, 2, 126);
        x.set(1, 1);
        x.set(2, 1);
        x.set(3, 8);
        x.set(6, 0);
        x.gone(5);
        x.undo();
        dueRow(25, "built stays", facts(x), 1000000000, 6, 3, 4, 2, 6, 2, 126);
    }

    private static long[] cells(TripleSieve x, boolean value) {
        long[] cells = new long[3 * x.built(1)];
        for (int c = 0; c < cells.length; c++) {
            cells[c] = x.filled(c, value);
        }
        return cells;
    }

    private static void filledPassesTold() {
        TripleSieve x = of("cells 3;prints 4;seed 11;" + FIVE);
        due(26, "filled without", x.filled(0, true), NONE);
        due(27, "passes without", x.passes(5), false);
        due(28, "told without", x.told(5), NONE);
        x.build(1);
        dueRow(26, "PRINTS, queue", cells(x, false), 2, 14, 8, 0, 2, 1, 0, 0, 0);
        dueRow(26, "VALUES, queue", cells(x, true), 8, 15, 1, 0, 12, 8, 0, 0, 0);
        x.set(5, 1);
        x.build(1);
        dueRow(26, "PRINTS, stack", cells(x, false), 0, 12, 0, 0, 2, 1, 8, 2, 0);
        dueRow(26, "VALUES, stack", cells(x, true), 0, 7, 0, 0, 12, 8, 1, 8, 0);
        x.set(5, 2);
        x.build(1);
        dueRow(26, "PRINTS, least", cells(x, false), 3, 15, 9, 1, 3, 0, 0, 0, 0);
        dueRow(26, "VALUES, least", cells(x, true), 0, 7, 9, 8, 4, 0, 0, 0, 0);
        for (int c : new int[] {9, -1, 96, Integer.MIN_VALUE, Integer.MAX_VALUE}) {
            due(26, "filled(" + c + ", false)", x.filled(c, false), NONE);
        }
        x.set(1, 30);
        x.set(2, 9);
        x.set(4, 77);
        x.set(6, 1);
        x.gone(9);
        int[] answers = {3, 4, 3, 4, 1, 9, 1, 15, 8, 3, 15, 7, 9, 7, 0};
        for (int n = 0; n < answers.length; n++) {
            x.print(n);
            due(27, "passes(" + n + ")", x.passes(n), n >= 5 && n <= 9);
            x.print(n);
            due(28, "told(" + n + ")", x.told(n), answers[n]);
        }
        due(27, "passes(45), a stranger", x.passes(45), true);
        due(26, "filled(9) of the SIEVE's own row", x.filled(9, false), NONE);
    }

    private static void rightNow() {
        TripleSieve x = of("cells 3;prints 4;seed 11;" + FIVE);
        due(29, "right() without", x.right(), NONE);
        x.build(1);
        due(29, "right()", x.right(), 5);
        x.turn(0, 8);
        due(29, "right() with another VALUE", x.right(), 4);
        x.add(0, 3);
        due(29, "right() with a KEY that is ANSWERED but does not PASS", x.right(), 4);
        x.gone(6);
        due(29, "right() without a KEY", x.right(), 3);
        x.add(45, x.told(45));
        due(29, "right() with a stranger", x.right(), 4);
        x.set(4, 12);
        x.set(1, 9);
        x.print(1);
        due(29, "right() by its own SETTINGS", x.right(), 4);
    }

    private static void strangersBehind() {
        TripleSieve x = of("cells 3;prints 4;seed 11;way least;" + FIVE);
        due(30, "strangers without", x.strangers(0, 10, -1), NONE);
        due(30, "strangers without", x.strangers(0, 10, -5), NONE);
        x.build(1);
        dueRow(30, "strangers", new long[] {x.strangers(0, 1000, -1), x.strangers(0, 1000, 0), x.strangers(0, 1000, 1),
            x.strangers(0, 1000, 2), x.strangers(0, 1000, 53), x.strangers(0, 1000, 54)}, 54, 45, 77, 92, 984, -2);
        x.set(1, 20);
        x.print(1);
        due(30, "strangers from 40", x.strangers(40, 6, 0), 5);
        due(30, "strangers, one number", x.strangers(45, 1, -1), 1);
        due(30, "strangers, one number", x.strangers(45, 1, 0), 0);
        due(30, "strangers, one number", x.strangers(44, 1, -1), 0);
        due(30, "strangers from 40, too short", x.strangers(40, 5, 0), -2);
        due(30, "strangers from 40, too short", x.strangers(40, 5, -1), 0);
        dueRow(30, "strangers that wrap", new long[] {x.strangers(Long.MAX_VALUE - 10, 40, -1),
            x.strangers(Long.MAX_VALUE - 10, 40, 0), x.strangers(Long.MAX_VALUE - 10, 40, 1)}, 2, 0, 27);
        due(30, "strangers(.., -2)", x.strangers(0, 10, -2), -2);
        due(30, "strangers(.., most)", x.strangers(0, 10, Integer.MAX_VALUE), -2);
        for (int span : new int[] {0, -1, 1001, Integer.MIN_VALUE, Integer.MAX_VALUE}) {
            due(30, "strangers of span " + span, x.strangers(0, span, -1), NONE);
            due(30, "strangers of span " + span, x.strangers(0, span, -2), NONE);
        }
        x.add(45, 0);
        x.gone(8);
        dueRow(30, "strangers are no KEYS now", new long[] {x.strangers(0, 50, -1), x.strangers(0, 50, 0)}, 1, 8);
    }

    private static void shelvesAndUnlike() {
        TripleSieve x = of("cells 3;prints 4;seed 11;" + FIVE);
        due(31, "shelf(0, false) without", x.shelf(0, false), false);
        due(32, "unlike(0) without", x.unlike(0), NONE);
        x.build(1);
        due(31, "shelf(0, true), none there", x.shelf(0, true), false);
        due(32, "unlike(0), none there", x.unlike(0), NONE);
        for (int k : new int[] {2, -1, Integer.MIN_VALUE, Integer.MAX_VALUE}) {
            due(31, "shelf(" + k + ", false)", x.shelf(k, false), false);
            due(31, "shelf(" + k + ", true)", x.shelf(k, true), false);
            due(32, "unlike(" + k + ")", x.unlike(k), NONE);
        }
        due(31, "shelf(0, false)", x.shelf(0, false), true);
        due(32, "unlike(1), none there", x.unlike(1), NONE);
        due(32, "unlike(0)", x.unlike(0), 0);
        x.set(5, 2);
        x.build(1);
        // 2/8 14/15 8/1 0/0 2/12 1/8 and 3/0 15/7 9/9 1/8 3/4 0/0
        due(32, "unlike(0)", x.unlike(0), 6);
        due(31, "shelf(1, false)", x.shelf(1, false), true);
        x.turn(4, 4);
        x.build(1);
        due(32, "unlike(1), another VALUE alone", x.unlike(1), x.wake(4, 3));
        due(31, "shelf(0, true)", x.shelf(0, true), true);
        dueRow(31, "that of SHELF 0", cells(x, false), 2, 14, 8, 0, 2, 1, 0, 0, 0);
        due(32, "unlike(0)", x.unlike(0), 0);
        due(32, "unlike(1)", x.unlike(1), 6);
        x.set(1, 4);
        x.build(99);
        due(32, "unlike(0), not as many cells", x.unlike(0), -2);
        due(31, "shelf(1, true)", x.shelf(1, true), true);
        dueRow(31, "that of SHELF 1", cells(x, true), 0, 7, 9, 8, 4, 0, 0, 0, 0);
        dueRow(31, "its facts", facts(x), 11, 3, 4, 4, 0, 5, 1, 72);
        due(31, "count(7): shelves are no ACTS", x.count(7), 3);
        x.undo();
        x.undo();
        x.undo();
        due(33, "undo leaves SHELVES", x.shelf(0, true), true);
        dueRow(33, "undo leaves THE SIEVE", cells(x, false), 2, 14, 8, 0, 2, 1, 0, 0, 0);
    }

    private static void undoActs() {
        TripleSieve x = of("key 1 is 5;key 2 is 6;key 3 is 7;");
        due(33, "undo() of none", x.undo(), NONE);
        x.gone(2);
        x.add(4, 8);
        x.turn(0, 9);
        x.set(1, 30);
        x.set(1, 30);
        x.gone(1);
        x.add(2, 1);
        x.gone(4);
        dueRow(33, "KEYS", new long[] {x.count(0), x.key(0), x.key(1)}, 2, 3, 2);
        due(33, "undo() of gone, the one in the middle", x.undo(), 7);
        dueRow(33, "KEYS", new long[] {x.count(0), x.key(0), x.key(1), x.key(2)}, 3, 3, 4, 2);
        dueRow(33, "VALUES", new long[] {x.worth(0), x.worth(1), x.worth(2)}, 7, 8, 1);
        due(33, "undo() of add", x.undo(), 6);
        dueRow(33, "KEYS", new long[] {x.count(0), x.key(0), x.key(1)}, 2, 3, 4);
        due(33, "undo() of gone, the first one", x.undo(), 5);
        dueRow(33, "KEYS", new long[] {x.count(0), x.key(0), x.key(1), x.key(2)}, 3, 1, 3, 4);
        due(33, "worth(0)", x.worth(0), 9);
        due(33, "undo() of set, as it was", x.undo(), 4);
        due(33, "count(1)", x.count(1), 30);
        due(33, "undo() of set", x.undo(), 3);
        due(33, "count(1)", x.count(1), 16);
        due(33, "undo() of turn", x.undo(), 2);
        due(33, "worth(0)", x.worth(0), 5);
        due(33, "undo() of add", x.undo(), 1);
        due(33, "undo() of gone", x.undo(), 0);
        dueRow(33, "KEYS", new long[] {x.count(0), x.key(0), x.key(1), x.key(2)}, 3, 1, 2, 3);
        dueRow(33, "VALUES", new long[] {x.worth(0), x.worth(1), x.worth(2)}, 5, 6, 7);
        due(33, "undo() of none", x.undo(), NONE);
        x.add(1, 0);
        x.add(9, 99);
        x.gone(77);
        x.turn(7, 0);
        x.set(1, 33);
        due(33, "count(7): what did not happen is no ACT", x.count(7), 0);
    }

    private static void undoLimits() {
        TripleSieve x = new TripleSieve();
        for (int k = 0; k < 20; k++) {
            x.add(k, 0);
            due(33, "count(7)", x.count(7), Math.min(k + 1, 12));
        }
        for (int left = 11; left >= 0; left--) {
            due(33, "undo()", x.undo(), left);
        }
        due(33, "undo() of none", x.undo(), NONE);
        due(33, "count(0)", x.count(0), 8);
        x.add(50, 0);
        due(33, "undo()", x.undo(), 0);
        due(33, "count(0)", x.count(0), 8);
        x.add(50, 0);
        tell(x, "key 1;");
        due(33, "undo() behind text", x.undo(), NONE);
        due(33, "count(0)", x.count(0), 1);
        // six settings, twice over: the first of them is out of reach
        for (int what = 1; what <= 6; what++) {
            x.set(what, 1);
        }
        for (int what = 1; what <= 6; what++) {
            x.set(what, 2);
        }
        x.turn(0, 3);
        for (int i = 0; i < 12; i++) {
            x.undo();
        }
        dueRow(33, "SETTINGS", new long[] {x.count(1), x.count(2), x.count(3), x.count(4), x.count(5), x.count(6)},
            1, 8, 4, 1, 0, 0);
        due(33, "worth(0)", x.worth(0), 0);
    }

    private static void countAll() {
        TripleSieve x = of("cells 2;prints 3;bits 5;seed 7;way stack;spread free;key 1;");
        x.add(2, 31);
        x.feed(0, 0, 0, 0, 0);
        x.end(13);
        int[] counts = {2, 2, 3, 5, 7, 1, 2, 1, 13};
        for (int what = 0; what < counts.length; what++) {
            due(34, "count(" + what + ")", x.count(what), counts[what]);
        }
        int empty = 0;
        for (int c = 0; c < 6; c++) {
            empty += x.load(c) == 0 ? 1 : 0;
        }
        due(34, "count(9)", x.count(9), empty);
        due(34, "count(10)", x.count(10), 0);
        x.set(1, 16);
        x.build(9);
        due(34, "count(10)", x.count(10), 1);
        due(34, "count(9)", x.count(9), 42);
        for (int what : new int[] {11, -1, Integer.MIN_VALUE, Integer.MAX_VALUE}) {
            due(34, "count(" + what + ")", x.count(what), NONE);
        }
    }

    /**
     * By SEED 0, free, 32 CELLS: the k-th of the first 47 TOUCHES the cells k, k + 1 and 95, the last one 47 alone.
     * So each goes only when the one ahead of it went.
     */
    private static final long[] CHAIN = {
        32316, 131522, 103413, 22977, 157772, 10628, 76904, 113084, 574552, 156422, 192185, 20890, 202187, 35526,
        81369, 570980, 49198, 113730, 237708, 22333, 89770, 168354, 67281, 18015, 64770, 106798, 61866, 76897, 252708,
        43375, 124235, 29399, 522994, 146450, 28368, 13153, 179, 149125, 161414, 29977, 210140, 200153, 144557, 111617,
        563224, 244230, 15379, 3170,
    };

    private static void longChain() {
        TripleSieve x = of("cells 32;bits 8;seed 0;spread free;");
        for (long number : CHAIN) {
            x.add(number, 200);
        }
        due(18, "level(-1)", x.level(-1), 48);
        for (int k = 0; k < 48; k++) {
            due(18, "level(" + k + ")", x.level(k), k + 1);
        }
        due(14, "load(0)", x.load(0), 1);
        due(14, "load(47)", x.load(47), 2);
        due(14, "load(95)", x.load(95), 47);
        due(34, "count(9)", x.count(9), 47);
        due(19, "rank()", x.rank(), 48);
        due(20, "mend(-1)", x.mend(-1), 0);
        for (int way = 0; way < 3; way++) {
            x.set(5, way);
            due(16, "peel(-1, 0)", x.peel(-1, 0), 48);
            for (int i = 0; i < 48; i++) {
                due(16, "peel(" + i + ", 0)", x.peel(i, 0), i);
                due(16, "peel(" + i + ", 1), way " + way, x.peel(i, 1), i == 46 && way == 1 ? 95 : i);
            }
            // by the stack the last but one is peeled by 95, so that 47, 95, 45 and every second cell ahead wake
            due(23, "wake(47, 0), way " + way, x.wake(47, 0), way == 1 ? 2 + 23 : 48);
            due(23, "wake(0, 0), way " + way, x.wake(0, 0), 1);
        }
        due(24, "build(1)", x.build(1), 1);
        due(29, "right()", x.right(), 48);
        // without its end the chain can be peeled from there, too
        x.gone(CHAIN[47]);
        due(18, "level(-1) from both ends", x.level(-1), 24);
        due(18, "level(23)", x.level(23), 24);
        due(18, "level(46)", x.level(46), 1);
        // twins at the end, where all others went
        x.undo();
        x.gone(CHAIN[20]);
        x.add(4257, 0);
        due(15, "twins()", x.twins(), 1);
        due(17, "core(-1)", x.core(-1), 2);
        dueRow(17, "core", new long[] {x.core(0), x.core(1)}, 46, 47);
        dueRow(20, "mend", mends(x), 1, 46, -2, -2, -2, -2);
        // closed at both ends, by 0 in cell 0 alone and 1591 in 46 alone: each cell is TOUCHED an even number of times
        x.gone(4257);
        x.undo();
        x.undo();
        x.undo();
        x.gone(CHAIN[47]);
        x.gone(CHAIN[46]);
        x.add(1591, 0);
        x.add(0, 0);
        due(17, "core(-1) of a closed chain", x.core(-1), 48);
        due(18, "level(-1) of a closed chain", x.level(-1), 0);
        due(19, "rank() of a closed chain", x.rank(), 47);
        dueRow(20, "mend of a closed chain", mends(x), 1, 0, -2, -2, -2, -2);
        due(34, "count(9)", x.count(9), 48);
    }

    private static void largestRow() {
        TripleSieve x = of("cells 32;prints 16;bits 8;spread close;" + keys(48));
        due(14, "load(95)", x.load(95) >= 0, true);
        due(14, "load(96)", x.load(96), NONE);
        int tried = x.build(99);
        due(24, "build(99)", tried > 0, true);
        due(25, "built(7)", x.built(7), 96 * 24);
        due(26, "filled(95, false)", x.filled(95, false) >= 0, true);
        due(26, "filled(96, false)", x.filled(96, false), NONE);
        due(29, "right()", x.right(), 48);
        x.shelf(0, false);
        due(32, "unlike(0)", x.unlike(0), 0);
        x.set(4, x.built(0));
        due(22, "peels(1)", x.peels(1), 1);
        for (int way = 0; way < 3; way++) {
            x.set(5, way);
            due(16, "peel(-1, 0)", x.peel(-1, 0), 48);
            due(17, "core(-1)", x.core(-1), 0);
            due(23, "wake(47, 255)", x.wake(47, 255) > 0, true);
        }
        due(19, "rank()", x.rank(), 48);
    }

    private static String padded(String last) {
        StringBuilder s = new StringBuilder("key 1;");
        while (s.length() + last.length() < 600) {
            s.append(s.length() % 2 == 0 ? ' ' : '\n');
        }
        return s.append(last).toString();
    }

    private static void fullTape() {
        TripleSieve x = new TripleSieve();
        due(4, "text() of 600 bytes", tell(x, padded("")), 1);
        due(4, "text() of 600 bytes", tell(x, padded("key 2;")), 2);
        due(4, "text() that ends with a WORD", tell(x, padded("key")), fault(600, 1));
        due(4, "text() that ends with a NUMBER", tell(x, padded("key 2")), fault(600, 1));
        due(4, "text() that ends with no TOKEN", tell(x, padded("!")), fault(599, 1));
        due(4, "text() that ends with one told", tell(x, padded("key 1")), fault(599, 2));
        due(4, "count(0)", x.count(0), 2);
    }
}
