/** Boundary cases of promises 16 to 23: PEELING, and what is found by it. SEED 0, free: KEYS are made for their cells. */
public final class BoundsOfPeelingTest {
    private static final int NONE = TripleSieve.NONE;
    private static final int[] WAYS = {0, 1, 2};

    public static void main(String[] args) {
        Sentences.runAll(BoundsOfPeelingTest.class);
    }

    // ---- promise 16

    @Sentence(promise = 16, says = "how many are PEELED (i NONE, what 0)")
    private static void peelHowMany() {
        Sentences.due("peel(-1, 0) of no KEYS", new TripleSieve().peel(-1, 0), 0);
        for (int way : WAYS) {
            TripleSieve x = apartSingles(48);
            x.set(5, way);
            Sentences.due("peel(-1, 0) of 48", x.peel(-1, 0), 48);
            x = twins(48);
            x.set(5, way);
            Sentences.due("peel(-1, 0) of 48 that are STUCK", x.peel(-1, 0), 0);
            x = Crafted.row(16, Crafted.single(16, 0), Crafted.single(16, 3), Crafted.single(16, 3, 1));
            x.set(5, way);
            Sentences.due("peel(-1, 0), some are STUCK", x.peel(-1, 0), 1);
        }
    }

    @Sentence(promise = 16, says = "NONE: others.")
    private static void peelOthers() {
        TripleSieve[] all = {new TripleSieve(), twins(2), apartSingles(1), apartSingles(48)};
        for (TripleSieve x : all) {
            int n = x.peel(-1, 0);
            for (int what = 0; what < 2; what++) {
                Sentences.due("peel(" + n + ", " + what + ")", x.peel(n, what), NONE);
                Sentences.due("peel(-2, " + what + ")", x.peel(-2, what), NONE);
                for (int i : Sentences.FAR) {
                    Sentences.due("peel(" + i + ", " + what + ")", x.peel(i, what), NONE);
                }
            }
            for (int what : new int[] {-1, 2, Integer.MIN_VALUE, Integer.MAX_VALUE}) {
                Sentences.due("peel(-1, " + what + ")", x.peel(-1, what), NONE);
                Sentences.due("peel(0, " + what + ")", x.peel(0, what), NONE);
            }
            Sentences.due("peel(-1, 1)", x.peel(-1, 1), NONE);
            Sentences.due("peel(0, 0) is there", x.peel(0, 0) != NONE, n > 0);
            Sentences.due("peel of the last is there", x.peel(n - 1, 1) != NONE, n > 0);
        }
    }

    @Sentence(promise = 16, says = "if it is ALONE still, it goes OUT")
    private static void peelOneByThreeCells() {
        // all three cells of the one KEY stand in line, but it is PEELED by the first that leaves it
        for (int way : WAYS) {
            TripleSieve x = Crafted.row(16, Crafted.free(16, 47, 9, 30));
            x.set(5, way);
            dueOrder(x, 0, way == 1 ? 47 : 9);
        }
    }

    @Sentence(promise = 16, says = "at first all cells that are ALONE stand in line by numbers; the first of the line (stack: the last) leaves it")
    private static void peelOfSingles() {
        TripleSieve x = Crafted.row(16, Crafted.single(16, 47), Crafted.single(16, 0), Crafted.single(16, 20));
        dueOrder(x, 1, 0, 2, 20, 0, 47);
        x.set(5, 1);
        dueOrder(x, 0, 47, 2, 20, 1, 0);
        x.set(5, 2);
        dueOrder(x, 1, 0, 2, 20, 0, 47);
    }

    @Sentence(promise = 16, says = "at first all cells that are ALONE stand in line by numbers")
    private static void peelWithAllCellsInLine() {
        // 0, 94 and 95 have a KEY each, every three cells between them one: all 96 are ALONE
        TripleSieve x = Crafted.row(32, Crafted.single(32, 95), Crafted.single(32, 94));
        for (int c = 1; c < 94; c += 3) {
            x.add(Crafted.free(32, c + 2, c, c + 1), 0);
        }
        x.add(Crafted.single(32, 0), 0);
        Sentences.due("count(9)", x.count(9), 0);
        for (int way : WAYS) {
            x.set(5, way);
            long[] due = new long[68];
            for (int i = 0; i < 34; i++) {
                int at = way == 1 ? 33 - i : i;
                due[2 * i] = at == 0 ? 33 : at == 32 ? 1 : at == 33 ? 0 : at + 1;
                due[2 * i + 1] = at == 0 ? 0 : at >= 32 ? 62 + at : 3 * at - (way == 1 ? 0 : 2);
            }
            dueOrder(x, due);
        }
    }

    @Sentence(promise = 16, says = "those of the other cells that its KEY TOUCHES that are ALONE now come behind the line, by numbers")
    private static void peelBehindTheLine() {
        // A goes by 0; 5 and 6 come into line, told in the other order
        TripleSieve x = Crafted.row(16, Crafted.free(16, 6, 5, 0), Crafted.free(16, 5, 7, 8), Crafted.free(16, 6, 7, 8));
        dueOrder(x, 0, 0, 1, 5, 2, 6);
        x.set(5, 1);
        dueOrder(x, 0, 0, 2, 6, 1, 8);
        x.set(5, 2);
        dueOrder(x, 0, 0, 1, 5, 2, 6);
        // behind the line, though the numbers are less: 9 stood there first
        x = Crafted.row(16, Crafted.free(16, 0, 1, 5), Crafted.free(16, 0, 1, 9));
        dueOrder(x, 0, 5, 1, 9);
        x.set(5, 1);
        dueOrder(x, 1, 9, 0, 1);
        x.set(5, 2);
        dueOrder(x, 0, 5, 1, 0);
    }

    @Sentence(promise = 16, says = "least: always the least cell that is ALONE goes OUT")
    private static void peelLeastGoesBack() {
        // the last cell of the ROW sets the first one free
        TripleSieve x = Crafted.row(32, Crafted.free(32, 0, 1, 95), Crafted.free(32, 0, 1, 94), Crafted.single(32, 94, 1));
        x.set(5, 2);
        dueOrder(x, 0, 95, 1, 0, 2, 94);
        // each sets a lesser cell free, while 20 is ALONE all the time
        x = Crafted.row(16, Crafted.free(16, 9, 7, 12), Crafted.free(16, 7, 5, 12), Crafted.free(16, 5, 3, 12),
            Crafted.single(16, 20), Crafted.single(16, 3, 1));
        x.set(5, 2);
        dueOrder(x, 0, 9, 1, 7, 2, 5, 4, 3, 3, 20);
    }

    @Sentence(promise = 16, says = "Where nothing else is said, KEYS are peeled by SEED, SETTINGS as they are now.")
    private static void peelAsTheyAreNow() {
        for (int way : WAYS) {
            TripleSieve x = Crafted.row(16, Crafted.single(16, 47));
            x.set(5, way);
            dueOrder(x, 0, 47);
            x.add(Crafted.single(16, 1), 0);
            dueOrder(x, way == 1 ? new long[] {0, 47, 1, 1} : new long[] {1, 1, 0, 47});
            x.add(Crafted.single(16, 47, 1), 0);
            dueOrder(x, 1, 1);
            x.gone(Crafted.single(16, 47));
            dueOrder(x, way == 1 ? new long[] {1, 47, 0, 1} : new long[] {0, 1, 1, 47});
            x.gone(Crafted.single(16, 1));
            x.gone(Crafted.single(16, 47, 1));
            dueOrder(x);
        }
    }

    // ---- promise 17

    @Sentence(promise = 17, says = "The i-th KEY of the CORE, by numbers; how many (i NONE)")
    private static void coreOfNoneAndAll() {
        Sentences.due("core(-1) of no KEYS", new TripleSieve().core(-1), 0);
        Sentences.due("core(-1), all are PEELED", apartSingles(48).core(-1), 0);
        TripleSieve x = twins(48);
        Sentences.due("core(-1), all are STUCK", x.core(-1), 48);
        for (int i = 0; i < 48; i++) {
            Sentences.due("core(" + i + ")", x.core(i), i);
        }
        // the first and the last of 48
        x = Crafted.row(16);
        x.add(Crafted.single(16, 47), 0);
        for (int c = 0; c < 46; c++) {
            x.add(Crafted.single(16, c), 0);
        }
        x.add(Crafted.single(16, 47, 1), 0);
        for (int way : WAYS) {
            x.set(5, way);
            Sentences.dueRow("core", new long[] {x.core(-1), x.core(0), x.core(1), x.core(2)}, 2, 0, 47, -2);
        }
    }

    @Sentence(promise = 17, says = "-2: not so many, others.")
    private static void coreNotSoMany() {
        TripleSieve[] all = {new TripleSieve(), apartSingles(3), twins(2), twins(48)};
        for (TripleSieve x : all) {
            int n = x.core(-1);
            Sentences.due("core(" + n + ")", x.core(n), -2);
            Sentences.due("core(-2)", x.core(-2), -2);
            Sentences.due("core(48)", x.core(48), -2);
            for (int i : Sentences.FAR) {
                Sentences.due("core(" + i + ")", x.core(i), -2);
            }
        }
    }

    // ---- promise 18

    @Sentence(promise = 18, says = "how many ROUNDS there are (k NONE)")
    private static void levelHowMany() {
        Sentences.due("level(-1) of no KEYS", new TripleSieve().level(-1), 0);
        Sentences.due("level(-1), all are STUCK", twins(48).level(-1), 0);
        Sentences.due("level(-1), all go at once", apartSingles(48).level(-1), 1);
        Sentences.due("level(-1), some are STUCK",
            Crafted.row(16, Crafted.single(16, 0), Crafted.single(16, 3), Crafted.single(16, 3, 1)).level(-1), 1);
        Sentences.due("level(-1), one after the other", chain(48).level(-1), 48);
    }

    @Sentence(promise = 18, says = "LEVEL of a KEY: the ROUND in which it goes, from 1 on.")
    private static void levelOfEach() {
        TripleSieve x = chain(48);
        for (int k = 0; k < 48; k++) {
            Sentences.due("level(" + k + ")", x.level(k), k + 1);
        }
        x = apartSingles(48);
        Sentences.due("level(0)", x.level(0), 1);
        Sentences.due("level(47)", x.level(47), 1);
    }

    @Sentence(promise = 18, says = "in each go all KEYS left that TOUCH a cell that is ALONE as it begins")
    private static void levelAsItBegins() {
        // told in the order in which one could go behind the other in the same round
        TripleSieve x = Crafted.row(16, Crafted.free(16, 0, 1, 10), Crafted.free(16, 1, 2, 10), Crafted.free(16, 2, 3, 10),
            Crafted.single(16, 3, 1), Crafted.free(16, 10, 10, 10, 1));
        // 0 is ALONE, so KEY 0 goes; 1, then 2, then 3 follow, each a round later; 10 is ALONE for KEY 4 at last
        Sentences.dueRow("level", levels(x), 1, 2, 3, 4, 4);
        // from both ends at once
        x = Crafted.row(16, Crafted.free(16, 0, 1, 10), Crafted.free(16, 1, 2, 10), Crafted.free(16, 2, 3, 10));
        Sentences.dueRow("level", levels(x), 1, 2, 1);
        // two cells that are ALONE for one KEY make it go once
        x = Crafted.row(16, Crafted.free(16, 0, 1, 2), Crafted.single(16, 2, 1));
        Sentences.dueRow("level", levels(x), 1, 2);
    }

    @Sentence(promise = 18, says = "-2: it is STUCK")
    private static void levelStuck() {
        TripleSieve x = Crafted.row(16, Crafted.single(16, 0), Crafted.single(16, 3), Crafted.single(16, 3, 1));
        Sentences.dueRow("level", levels(x), 1, -2, -2);
        x.add(Crafted.single(16, 0, 1), 0);
        Sentences.dueRow("level, one more is STUCK", levels(x), -2, -2, -2, -2);
        x.gone(Crafted.single(16, 3));
        Sentences.dueRow("level, one is STUCK no more", levels(x), -2, 1, -2);
        x = twins(48);
        Sentences.due("level(0)", x.level(0), -2);
        Sentences.due("level(47)", x.level(47), -2);
    }

    @Sentence(promise = 18, says = "NONE: no such KEY.")
    private static void levelOfNoKey() {
        TripleSieve[] all = {new TripleSieve(), apartSingles(3), twins(2), twins(48), apartSingles(48)};
        for (TripleSieve x : all) {
            Sentences.due("level of one too many", x.level(x.count(0)), NONE);
            Sentences.due("level(-2)", x.level(-2), NONE);
            for (int k : Sentences.FAR) {
                Sentences.due("level(" + k + ")", x.level(k), NONE);
            }
        }
    }

    // ---- promise 19

    @Sentence(promise = 19, says = "RANK: the most KEYS among which there are no one or more that together TOUCH each cell an even number of times.")
    private static void rankFromNoneTo48() {
        Sentences.due("rank() of no KEYS", new TripleSieve().rank(), 0);
        Sentences.due("rank() of one", apartSingles(1).rank(), 1);
        Sentences.due("rank() of 48 in cells of their own", apartSingles(48).rank(), 48);
        Sentences.due("rank() of two twins", twins(2).rank(), 1);
        Sentences.due("rank() of 48 twins", twins(48).rank(), 1);
        Sentences.due("rank() of a chain", chain(48).rank(), 48);
        TripleSieve x = apartSingles(3);
        Sentences.due("rank() of three", x.rank(), 3);
        x.gone(Crafted.single(16, 1));
        Sentences.due("rank() behind gone", x.rank(), 2);
        x.undo();
        Sentences.due("rank() behind undo", x.rank(), 3);
        x.set(6, 0);
        x.set(1, 1);
        Sentences.due("rank() in one BLOCK", x.rank(), 1);
        x = Crafted.row(1);
        for (int n = 0; n < 16; n++) {
            x.add(Crafted.single(1, 0, n), 0);
            x.add(Crafted.single(1, 1, n), 0);
            x.add(Crafted.single(1, 2, n), 0);
        }
        Sentences.due("rank() of 48 in 3 cells", x.rank(), 3);
    }

    @Sentence(promise = 19, says = "that together TOUCH each cell an even number of times")
    private static void rankOfSums() {
        // over the places where 32 and 64 bits end
        int[][] threes = {{0, 1, 2}, {30, 31, 32}, {62, 63, 64}, {63, 64, 65}, {0, 63, 64}, {0, 64, 95}, {93, 94, 95}};
        for (int[] t : threes) {
            long all = Crafted.free(32, t[0], t[1], t[2]);
            TripleSieve x = Crafted.row(32, all);
            for (int i = 0; i < 3; i++) {
                x.add(Crafted.single(32, t[i]), 0);
            }
            Sentences.due("rank() of three and their sum", x.rank(), 3);
            x.gone(all);
            Sentences.due("rank() without the sum", x.rank(), 3);
            x.add(all, 0);
            Sentences.due("rank() with the sum as the last", x.rank(), 3);
            x.gone(Crafted.single(32, t[0]));
            Sentences.due("rank() of two and a sum", x.rank(), 3);
        }
        // four of them, none with a cell alone: {0,1,2} {2,3,4} {0,3,5} {1,4,5}
        TripleSieve x = Crafted.row(16, Crafted.free(16, 0, 1, 2), Crafted.free(16, 2, 3, 4), Crafted.free(16, 0, 3, 5),
            Crafted.free(16, 1, 4, 5));
        Sentences.due("rank() of four that make nothing", x.rank(), 3);
        Sentences.due("core(-1) of these", x.core(-1), 4);
    }

    // ---- promise 20

    @Sentence(promise = 20, says = "how many (i NONE)")
    private static void mendHowMany() {
        Sentences.due("mend(-1) of no KEYS", new TripleSieve().mend(-1), 0);
        Sentences.due("mend(-1), none is STUCK", apartSingles(48).mend(-1), 0);
        for (int pairs = 1; pairs <= 5; pairs++) {
            Sentences.due("mend(-1) of " + pairs + " pairs", pairs(pairs).mend(-1), pairs <= 3 ? pairs : -2);
        }
        for (int n = 1; n <= 6; n++) {
            Sentences.due("mend(-1) of " + n + " twins", twins(n).mend(-1), n <= 4 ? n - 1 : -2);
        }
        Sentences.due("mend(-1) of 48 twins", twins(48).mend(-1), -2);
    }

    @Sentence(promise = 20, says = "The fewest KEYS, 3 at most, without which none is STUCK (the first such row of them, by numbers): the i-th")
    private static void mendTheFirstRow() {
        // pairs 3 and 7, 1 and 5, 0 and 8 in the cells 9, 2, 30; 2, 4, 6 are not STUCK
        TripleSieve x = Crafted.row(16, Crafted.single(16, 30), Crafted.single(16, 2), Crafted.single(16, 4),
            Crafted.single(16, 9), Crafted.single(16, 5), Crafted.single(16, 2, 1), Crafted.single(16, 6),
            Crafted.single(16, 9, 1), Crafted.single(16, 30, 1));
        for (int way : WAYS) {
            x.set(5, way);
            Sentences.dueRow("mend", mends(x), 3, 0, 1, 3, -2, -2);
        }
        // KEY 0 is STUCK, but leaving it out sets none of the others free
        x = Crafted.row(16, Crafted.single(16, 0), Crafted.free(16, 0, 1, 2), Crafted.free(16, 0, 3, 4), Crafted.single(16, 7),
            Crafted.single(16, 2), Crafted.single(16, 4), Crafted.free(16, 1, 3, 7));
        Sentences.due("core(-1)", x.core(-1), 7);
        Sentences.dueRow("mend", mends(x), 1, 1, -2, -2, -2, -2);
        // 45 that are not STUCK, and pairs among the last six
        x = Crafted.row(32);
        for (int c = 0; c < 42; c++) {
            x.add(Crafted.single(32, c), 0);
        }
        for (int c = 93; c < 96; c++) {
            x.add(Crafted.single(32, c), 0);
            x.add(Crafted.single(32, c, 1), 0);
        }
        Sentences.dueRow("mend of 48", mends(x), 3, 42, 44, 46, -2, -2);
    }

    @Sentence(promise = 20, says = "-2: not by 3, not so many, others.")
    private static void mendOthers() {
        Sentences.dueRow("mend, none", mends(apartSingles(3)), 0, -2, -2, -2, -2, -2);
        Sentences.dueRow("mend by one", mends(pairs(1)), 1, 0, -2, -2, -2, -2);
        Sentences.dueRow("mend by two", mends(pairs(2)), 2, 0, 2, -2, -2, -2);
        Sentences.dueRow("mend by three", mends(pairs(3)), 3, 0, 2, 4, -2, -2);
        Sentences.dueRow("mend, not by three", mends(pairs(4)), -2, -2, -2, -2, -2, -2);
        for (TripleSieve x : new TripleSieve[] {new TripleSieve(), pairs(3), pairs(4)}) {
            for (int i : Sentences.FAR) {
                Sentences.due("mend(" + i + ")", x.mend(i), -2);
            }
        }
    }

    @Sentence(promise = 20, says = "Where nothing else is said, KEYS are peeled by SEED, SETTINGS as they are now.")
    private static void mendAsTheyAreNow() {
        TripleSieve x = pairs(1);
        Sentences.due("mend(-1)", x.mend(-1), 1);
        x.set(4, 1);
        Sentences.due("mend(-1) by another SEED", x.mend(-1), 0);
        x.undo();
        Sentences.due("mend(-1) behind undo", x.mend(-1), 1);
        x.gone(Crafted.single(16, 0));
        Sentences.due("mend(-1) behind gone", x.mend(-1), 0);
        x.undo();
        Sentences.due("mend(0) behind undo", x.mend(0), 0);
        x.set(1, 1);
        x.set(6, 0);
        Sentences.due("mend(-1) of another SPREAD", x.mend(-1), 1);
        x.add(5, 0);
        Sentences.due("mend(-1) behind add", x.mend(-1), 2);
        Bytes.put("key 1;", x);
        x.text();
        Sentences.due("mend(-1) behind text", x.mend(-1), 0);
    }

    @Sentence(promise = 20, says = "The fewest KEYS, 3 at most, without which none is STUCK")
    private static void mendOfManyFours() {
        // fewer KEYS than cells: it is not their number that keeps them STUCK
        for (int fours = 1; fours <= 12; fours++) {
            TripleSieve x = Crafted.row(32);
            for (int i = 0; i < fours; i++) {
                addFour(x, 6 * i);
            }
            Sentences.due("core(-1)", x.core(-1), 4 * fours);
            if (fours <= 3) {
                Sentences.dueRow("mend of " + fours, mends(x), fours, 0, fours > 1 ? 4 : -2, fours > 2 ? 8 : -2, -2, -2);
            } else {
                Sentences.dueRow("mend of " + fours, mends(x), -2, -2, -2, -2, -2, -2);
            }
        }
    }

    @Sentence(promise = 20, says = "without which none is STUCK")
    private static void mendOf48ByOne() {
        // a chain of 48 that is closed at both ends, told from either: without any one of it all the others go
        long[] closed = new long[48];
        closed[0] = Crafted.single(32, 0);
        for (int k = 0; k < 46; k++) {
            closed[k + 1] = Crafted.free(32, k, k + 1, 95);
        }
        closed[47] = Crafted.single(32, 46);
        for (boolean back : new boolean[] {false, true}) {
            TripleSieve x = Crafted.row(32);
            for (int k = 0; k < 48; k++) {
                x.add(closed[back ? 47 - k : k], 0);
            }
            for (int way : WAYS) {
                x.set(5, way);
                Sentences.due("core(-1)", x.core(-1), 48);
                Sentences.due("rank()", x.rank(), 47);
                Sentences.dueRow("mend", mends(x), 1, 0, -2, -2, -2, -2);
            }
            for (int k : new int[] {0, 23, 47}) {
                x.gone(x.key(k));
                Sentences.due("core(-1) without one", x.core(-1), 0);
                Sentences.due("mend(-1) without one", x.mend(-1), 0);
                x.undo();
            }
        }
    }

    @Sentence(promise = 20, says = "The fewest KEYS, 3 at most")
    private static void mendTimeAndAgain() {
        TripleSieve x = Crafted.row(32);
        addFour(x, 0);
        addFour(x, 6);
        addFour(x, 90);
        for (int i = 0; i < 50; i++) {
            x.set(5, i % 3);
            Sentences.due("mend(-1)", x.mend(-1), 3);
            Sentences.due("mend(2)", x.mend(2), 8);
        }
        for (int k = 12; k < 48; k++) {
            x.add(Crafted.single(32, k), 0);
        }
        Sentences.dueRow("mend with 36 more", mends(x), 3, 0, 4, 8, -2, -2);
    }

    /** Acts that change what mend answers, by their numbers. */
    private static void act(TripleSieve x, int which) {
        switch (which) {
            case 0:
                x.add(Crafted.single(16, 2, 2), 0);
                break;
            case 1:
                x.gone(Crafted.single(16, 0));
                break;
            case 2:
                x.set(4, 1);
                break;
            case 3:
                x.set(1, 1);
                break;
            case 4:
                x.turn(0, 3);
                break;
            case 5:
                x.undo();
                break;
            default:
                Sentences.tell(x, "cells 1;key 1;key 2;key 3;");
                break;
        }
    }

    @Sentence(promise = 20, says = "SETTINGS as they are now")
    private static void mendBehindTwoActs() {
        for (int one = 0; one < 7; one++) {
            for (int other = 0; other < 7; other++) {
                TripleSieve asked = pairs(2);
                asked.add(Crafted.single(16, 2), 0);
                TripleSieve fresh = pairs(2);
                fresh.add(Crafted.single(16, 2), 0);
                Sentences.due("mend(-1)", asked.mend(-1), 2);
                act(asked, one);
                act(asked, other);
                act(fresh, one);
                act(fresh, other);
                Sentences.dueRow("mend behind acts " + one + ", " + other, mends(asked), mends(fresh));
                Sentences.due("mend(-1) is 0 where none is STUCK", asked.mend(-1) == 0, fresh.core(-1) == 0);
            }
        }
    }

    // ---- promise 21

    /** By PARTS alike a number TOUCHES one cell, whatever CELLS there are. */
    private static long even(int part, int low) {
        return Crafted.ofParts(0, part, part, part, low);
    }

    @Sentence(promise = 21, says = "The fewest CELLS (1 to 32) by which none is STUCK")
    private static void tightFromOneTo32() {
        Sentences.due("tight() of no KEYS", new TripleSieve().tight(), 1);
        Sentences.due("tight() of one KEY", Sentences.of("cells 32;key 5;").tight(), 1);
        Sentences.due("tight() of two, apart", Sentences.of("cells 32;key 5;key 6;").tight() > 1, true);
        // by n CELLS the first PART of cell 1 and the one ahead lie in two cells; by fewer in cell 0
        for (int n = 2; n <= 32; n++) {
            int edge = Crafted.part(1, 3 * n);
            TripleSieve x = Crafted.row(16, even(edge, 0), even(edge - 1, 0));
            Sentences.due("tight() by " + n, x.tight(), n);
            Sentences.due("count(1) stays", x.count(1), 16);
        }
    }

    @Sentence(promise = 21, says = "The fewest CELLS")
    private static void tightThoughMoreDont() {
        // two cells of 6, but one of 3 and one of 9
        TripleSieve x = Crafted.row(3, even(10922, 0), even(10923, 0));
        Sentences.due("core(-1) by 3 CELLS", x.core(-1), 2);
        Sentences.due("tight()", x.tight(), 2);
        x.set(1, 1);
        Sentences.due("core(-1) by 1 CELLS", x.core(-1), 2);
        Sentences.due("tight()", x.tight(), 2);
    }

    @Sentence(promise = 21, says = "-2: by none.")
    private static void tightByNone() {
        Sentences.due("tight() of twins", twins(2).tight(), -2);
        Sentences.due("tight() of 48 twins", twins(48).tight(), -2);
        // two cells of 99, but one of 96 and of fewer
        int edge = Crafted.part(1, 99);
        Sentences.due("tight(), 33 CELLS would do", Crafted.row(16, even(edge, 0), even(edge - 1, 0)).tight(), -2);
    }

    // ---- promise 22

    @Sentence(promise = 22, says = "By how many of m SEEDS (1 to 200; SEED, SEED + 1, ..) none is STUCK")
    private static void peelsOfEachM() {
        TripleSieve x = new TripleSieve();
        for (int m : new int[] {1, 2, 199, 200}) {
            Sentences.due("peels(" + m + ") of no KEYS", x.peels(m), m);
        }
        x = Sentences.of("cells 1;key 1;key 2;");
        Sentences.due("peels(1), always STUCK", x.peels(1), 0);
        Sentences.due("peels(200), always STUCK", x.peels(200), 0);
    }

    @Sentence(promise = 22, says = "(1 to 200; SEED, SEED + 1, ..)")
    private static void peelsUpToTheLastSeed() {
        // twins by one SEED alone, the first or the last of them; the last told SEED has others behind it
        for (int seed : new int[] {0, 1, 999999999}) {
            for (int behind : new int[] {0, 1, 98, 199}) {
                TripleSieve x = Sentences.of("cells 32;seed " + seed + ";");
                x.add(Crafted.ofHash(0x5ACE13579BDF0000L, seed + behind), 0);
                x.add(Crafted.ofHash(0x5ACE13579BDF0001L, seed + behind), 0);
                if (behind > 0) {
                    Sentences.due("peels(" + behind + ")", x.peels(behind), behind);
                }
                Sentences.due("peels(" + (behind + 1) + ")", x.peels(behind + 1), behind);
                Sentences.due("peels(200)", x.peels(200), 199);
                Sentences.due("count(4) stays", x.count(4), seed);
            }
        }
    }

    @Sentence(promise = 22, says = "NONE: no such m.")
    private static void peelsOfNoM() {
        for (TripleSieve x : new TripleSieve[] {new TripleSieve(), twins(2), apartSingles(48)}) {
            Sentences.due("peels(0)", x.peels(0), NONE);
            Sentences.due("peels(-1)", x.peels(-1), NONE);
            Sentences.due("peels(201)", x.peels(201), NONE);
            for (int m : Sentences.FAR) {
                Sentences.due("peels(" + m + ")", x.peels(m), NONE);
            }
        }
    }

    // ---- promise 23

    @Sentence(promise = 23, says = "FILLED, in how many cells another VALUE would be, if the k-th KEY had this one")
    private static void wakeFromNoneToAll() {
        TripleSieve x = chain(48);
        x.set(3, 8);
        Sentences.due("wake(47, 0) as it is", x.wake(47, 0), 0);
        Sentences.due("wake(47, 1), every cell that is filled", x.wake(47, 1), 48);
        Sentences.due("wake(47, 255)", x.wake(47, 255), 48);
        Sentences.due("wake(0, 255), its own cell alone", x.wake(0, 255), 1);
        x = apartSingles(48);
        for (int k : new int[] {0, 47}) {
            Sentences.due("wake(" + k + ", 15)", x.wake(k, 15), 1);
            Sentences.due("wake(" + k + ", 0) as it is", x.wake(k, 0), 0);
        }
        Sentences.due("worth(0) stays", x.worth(0), 0);
        Sentences.due("count(7) stays", x.count(7), 12);
    }

    @Sentence(promise = 23, says = "-2: some are STUCK")
    private static void wakeStuck() {
        TripleSieve x = Crafted.row(16, Crafted.single(16, 0), Crafted.single(16, 3), Crafted.single(16, 3, 1));
        for (int k = 0; k < 3; k++) {
            Sentences.due("wake(" + k + ", 1)", x.wake(k, 1), -2);
            Sentences.due("wake(" + k + ", 0) as it is", x.wake(k, 0), -2);
        }
        x.gone(Crafted.single(16, 3));
        Sentences.due("wake(1, 1), none is STUCK", x.wake(1, 1), 1);
    }

    @Sentence(promise = 23, says = "NONE: no such KEY, VALUE.")
    private static void wakeOfNone() {
        TripleSieve none = new TripleSieve();
        Sentences.due("wake(0, 0) of no KEYS", none.wake(0, 0), NONE);
        for (int n : new int[] {1, 48}) {
            TripleSieve x = apartSingles(n);
            Sentences.due("wake(-1, 0)", x.wake(-1, 0), NONE);
            Sentences.due("wake(" + n + ", 0)", x.wake(n, 0), NONE);
            for (int far : Sentences.FAR) {
                Sentences.due("wake(" + far + ", 0)", x.wake(far, 0), NONE);
                Sentences.due("wake(0, " + far + ")", x.wake(0, far), NONE);
            }
            for (int bits = 0; bits <= 8; bits++) {
                x.set(3, bits);
                Sentences.due("wake(0, -1)", x.wake(0, -1), NONE);
                Sentences.due("wake(0, 2 to the BITS)", x.wake(0, 1 << bits), NONE);
                Sentences.due("wake(0, the most)", x.wake(0, (1 << bits) - 1), bits == 0 ? 0 : 1);
            }
        }
    }

    @Sentence(promise = 23, says = "Of several reasons NONE goes ahead.")
    private static void wakeForSeveralReasons() {
        TripleSieve x = twins(2);
        Sentences.due("wake(2, 0), STUCK", x.wake(2, 0), NONE);
        Sentences.due("wake(-1, 0), STUCK", x.wake(-1, 0), NONE);
        Sentences.due("wake(0, 16), STUCK", x.wake(0, 16), NONE);
        Sentences.due("wake(0, -1), STUCK", x.wake(0, -1), NONE);
        Sentences.due("wake(0, 15), STUCK", x.wake(0, 15), -2);
    }

    // ---- what these tests need

    /** KEY k in cell k alone; up to 48 in 48 cells. */
    private static TripleSieve apartSingles(int n) {
        TripleSieve x = Crafted.row(16);
        for (int c = 0; c < n; c++) {
            x.add(Crafted.single(16, c), 0);
        }
        return x;
    }

    /** All in the cells 3, 20 and 40; they stay together by other CELLS, too. */
    private static TripleSieve twins(int n) {
        TripleSieve x = Crafted.row(16);
        for (int i = 0; i < n; i++) {
            x.add(Crafted.free(16, 3, 20, 40, i), 0);
        }
        return x;
    }

    /** Two KEYS in cell 0, two in cell 1 and so on. */
    private static TripleSieve pairs(int n) {
        TripleSieve x = Crafted.row(16);
        for (int c = 0; c < n; c++) {
            x.add(Crafted.single(16, c), 0);
            x.add(Crafted.single(16, c, 1), 0);
        }
        return x;
    }

    /** Four KEYS in six cells, two in each: all are STUCK, and none is if one of them goes. */
    private static void addFour(TripleSieve x, int c) {
        x.add(Crafted.free(32, c, c + 1, c + 2), 0);
        x.add(Crafted.free(32, c + 2, c + 3, c + 4), 0);
        x.add(Crafted.free(32, c, c + 3, c + 5), 0);
        x.add(Crafted.free(32, c + 1, c + 4, c + 5), 0);
    }

    /** KEY k in the cells k, k + 1 and 95, the last one in its own cell alone: each goes when the one ahead went. */
    private static TripleSieve chain(int n) {
        TripleSieve x = Crafted.row(32);
        for (int k = 0; k < n - 1; k++) {
            x.add(Crafted.free(32, k, k + 1, 95), 0);
        }
        x.add(Crafted.single(32, n - 1), 0);
        return x;
    }

    private static void dueOrder(TripleSieve x, long... keysAndCells) {
        long[] got = new long[2 * x.peel(NONE, 0)];
        for (int i = 0; i < got.length; i++) {
            got[i] = x.peel(i / 2, i % 2);
        }
        Sentences.dueRow("peel, WAY " + x.count(5), got, keysAndCells);
    }

    private static long[] levels(TripleSieve x) {
        long[] all = new long[x.count(0)];
        for (int k = 0; k < all.length; k++) {
            all[k] = x.level(k);
        }
        return all;
    }

    private static long[] mends(TripleSieve x) {
        return new long[] {x.mend(-1), x.mend(0), x.mend(1), x.mend(2), x.mend(3), x.mend(-2)};
    }
}
