import java.util.ArrayList;
import java.util.List;
import java.util.NoSuchElementException;

/** Long runs of calls on fresh objects: each answer is to be that of the plain model. */
public final class ModelTest {
    private static final int RUNS = 400;
    private static final int CALLS = 512;
    /** Far from any number a call can answer by itself. */
    private static final long THROWN = Long.MIN_VALUE + 12345;

    private final Dice dice;
    private final TripleSieve x = new TripleSieve();
    private final PlainModel model = new PlainModel();
    private final List<String> trace = new ArrayList<>();
    private final List<Long> known = new ArrayList<>();
    private final int run;
    private int wrong;
    private int calls;

    private ModelTest(int run) {
        this.run = run;
        this.dice = new Dice(run * 7919L + 17);
    }

    public static void main(String[] args) {
        int wrong = 0;
        int runs = args.length > 0 ? Integer.parseInt(args[0]) : RUNS;
        for (int run = 1; run <= runs && wrong < 5; run++) {
            wrong += new ModelTest(run).go();
        }
        System.out.println(wrong == 0 ? runs + " runs are as the model's" : wrong + " runs are not as the model's");
        if (wrong != 0) {
            System.exit(1);
        }
    }

    private int go() {
        start();
        while (calls < CALLS && wrong == 0) {
            int pick = dice.below(100);
            if (pick < (known.isEmpty() ? 8 : 1)) {
                tapeCall();
            } else if (pick < 45) {
                actCall();
            } else if (pick < 72) {
                peelCall();
            } else {
                sieveCall();
            }
        }
        return wrong;
    }

    /** Some runs begin crowded, so that cores, ranks and mends of many KEYS come up too. */
    private void start() {
        int kind = run % 5;
        if (kind == 0) {
            return;
        }
        if (kind == 4) {
            startInWindow();
            return;
        }
        StringBuilder text = new StringBuilder();
        text.append("cells ").append(kind == 3 ? 12 + dice.below(21) : 1 + dice.below(8)).append(';');
        text.append("bits ").append(dice.below(9)).append(';');
        text.append("way ").append(dice.of("queue", "stack", "least")).append(';');
        text.append("spread ").append(dice.of("apart", "close", "free")).append(';');
        int keys = kind == 3 ? 20 + dice.below(29) : dice.below(20);
        for (int k = 0; k < keys; k++) {
            text.append("key").append(k * 2 + dice.below(2)).append(';');
        }
        tell(text.toString());
    }

    /** A long row, and KEYS that TOUCH only a few cells that stand together in it (apart: in each BLOCK). */
    private void startInWindow() {
        int cells = 8 + dice.below(25);
        int spread = dice.below(3);
        tell("cells " + cells + ";seed " + dice.below(1000) + ";way " + dice.of("queue", "stack", "least") + ";spread "
            + new String[] {"apart", "close", "free"}[spread] + ";");
        int round = spread == 0 ? cells : 3 * cells;
        int width = Math.min(round, 2 + dice.below(spread == 0 ? 6 : 9));
        int from = dice.below(round);
        int keys = 4 + dice.below(45);
        for (long number = 0; number < 400_000 && known.size() < keys; number++) {
            boolean inside = true;
            for (int j = 0; j < 3 && inside; j++) {
                inside = Math.floorMod(model.cell(number, j) - from, round) < width;
            }
            if (inside) {
                known.add(number);
                int v = dice.below(16);
                note("add(" + number + ", " + v + ")", x.add(number, v), model.add(number, v));
            }
        }
    }

    private long number() {
        return known.isEmpty() || dice.below(4) == 0 ? dice.number() : known.get(dice.below(known.size()));
    }

    private void tell(String text) {
        for (int at = 0; at < text.length() && at < 600; at += 20) {
            feed(Bytes.numbers(text, at));
        }
        int n = text.length();
        note("end(" + n + ")", bool(x.end(n)), bool(model.end(n)));
        note("text() of " + text, x.text(), model.text());
    }

    private void feed(int[] n) {
        note("feed(" + n[0] + ", ..)", x.feed(n[0], n[1], n[2], n[3], n[4]),
            model.feed(n[0], n[1], n[2], n[3], n[4]));
    }

    private void note(String call, long got, long due) {
        calls++;
        trace.add(call + " " + got);
        if (got != due) {
            wrong = 1;
            System.out.println("run " + run + ": " + call + " answered " + got + ", the model says " + due);
            for (String s : trace.subList(Math.max(0, trace.size() - 40), trace.size())) {
                System.out.println("    " + s);
            }
        }
    }

    private static long bool(boolean b) {
        return b ? 1 : 0;
    }

    private void tapeCall() {
        switch (dice.below(6)) {
            case 0:
                int[] n = {dice.any(), dice.any(), dice.any(), dice.any(), dice.any()};
                feed(n);
                break;
            case 1:
                int m = dice.near(0, 620);
                note("end(" + m + ")", bool(x.end(m)), bool(model.end(m)));
                break;
            case 2:
                note("text()", x.text(), model.text());
                break;
            default:
                note("end(0)", bool(x.end(0)), bool(model.end(0)));
                tell(dice.text());
                break;
        }
    }

    private void actCall() {
        int k = dice.near(0, 6 + model.count(0));
        int v = dice.below(8) == 0 ? dice.near(0, 260) : dice.below(1 << Math.min(8, model.count(3)));
        long number = number();
        switch (dice.below(10)) {
            case 0:
            case 1:
            case 2:
                note("add(" + number + ", " + v + ")", x.add(number, v), model.add(number, v));
                break;
            case 3:
                note("gone(" + number + ")", x.gone(number), model.gone(number));
                break;
            case 4:
                note("turn(" + k + ", " + v + ")", x.turn(k, v), model.turn(k, v));
                break;
            case 5:
            case 6:
                int what = known.isEmpty() || dice.below(9) == 0 ? dice.near(1, 7) : dice.of(2, 3, 5);
                int to = dice.setting(what);
                note("set(" + what + ", " + to + ")", x.set(what, to), model.set(what, to));
                break;
            case 7:
                note("undo()", x.undo(), model.undo());
                break;
            case 8:
                note("key(" + k + ")", keyOf(x, k), keyOf(model, k));
                note("worth(" + k + ")", x.worth(k), model.worth(k));
                break;
            default:
                int c = dice.near(0, 11);
                note("count(" + c + ")", x.count(c), model.count(c));
                break;
        }
    }

    private static long keyOf(TripleSieve x, int k) {
        try {
            return x.key(k);
        } catch (NoSuchElementException e) {
            return THROWN;
        }
    }

    private static long keyOf(PlainModel x, int k) {
        try {
            return x.key(k);
        } catch (NoSuchElementException e) {
            return THROWN;
        }
    }

    private void peelCall() {
        long number = number();
        int i = dice.near(0, 2 + model.count(0));
        int cell = dice.near(0, 3 * model.count(1));
        int v = dice.near(0, 1 << model.count(3));
        int seed = dice.any();
        int j = dice.near(0, 3);
        switch (dice.below(30)) {
            case 0:
                note("hash(" + number + ", " + seed + ")", x.hash(number, seed), model.hash(number, seed));
                break;
            case 1:
                note("cell(" + number + ", " + j + ")", x.cell(number, j), model.cell(number, j));
                break;
            case 2:
                note("print(" + number + ")", x.print(number), model.print(number));
                break;
            case 3:
            case 4:
                note("load(" + cell + ")", x.load(cell), model.load(cell));
                break;
            case 5:
            case 6:
                note("twins()", x.twins(), model.twins());
                break;
            case 7:
                note("tight()", x.tight(), model.tight());
                break;
            case 8:
                int m = dice.near(1, 20) + (dice.below(10) == 0 ? 180 : 0);
                note("peels(" + m + ")", x.peels(m), model.peels(m));
                break;
            case 9:
            case 10:
                if (model.count(0) < 30 || dice.below(6) == 0) {
                    note("mend(" + j + ")", x.mend(j), model.mend(j));
                }
                break;
            case 11:
            case 12:
                note("rank()", x.rank(), model.rank());
                break;
            case 13:
            case 14:
            case 15:
                note("core(" + i + ")", x.core(i), model.core(i));
                break;
            case 16:
            case 17:
            case 18:
            case 19:
                note("level(" + i + ")", x.level(i), model.level(i));
                break;
            case 20:
            case 21:
            case 22:
            case 23:
                note("wake(" + i + ", " + v + ")", x.wake(i, v), model.wake(i, v));
                break;
            default:
                int what = dice.near(0, 2);
                note("peel(" + i + ", " + what + ")", x.peel(i, what), model.peel(i, what));
                break;
        }
    }

    private void sieveCall() {
        long number = number();
        int cell = dice.near(0, 3 * model.count(1));
        int shelf = dice.near(0, 2);
        boolean yes = dice.below(2) == 0;
        switch (dice.below(16)) {
            case 0:
            case 1:
            case 2:
                int m = dice.below(6) == 0 ? dice.near(90, 100) : dice.near(1, 9);
                note("build(" + m + ")", x.build(m), model.build(m));
                break;
            case 3:
            case 4:
                int what = dice.near(0, 8);
                note("built(" + what + ")", x.built(what), model.built(what));
                break;
            case 5:
            case 6:
            case 7:
                note("filled(" + cell + ", " + yes + ")", x.filled(cell, yes), model.filled(cell, yes));
                break;
            case 8:
                note("passes(" + number + ")", bool(x.passes(number)), bool(model.passes(number)));
                break;
            case 9:
                note("told(" + number + ")", x.told(number), model.told(number));
                break;
            case 10:
                note("right()", x.right(), model.right());
                break;
            case 11:
                int span = dice.below(5) == 0 ? dice.near(990, 1001) : dice.near(1, 60);
                int k = dice.near(0, 5);
                note("strangers(" + number + ", " + span + ", " + k + ")", x.strangers(number, span, k),
                    model.strangers(number, span, k));
                break;
            case 12:
            case 13:
                note("shelf(" + shelf + ", " + yes + ")", bool(x.shelf(shelf, yes)), bool(model.shelf(shelf, yes)));
                break;
            default:
                note("unlike(" + shelf + ")", x.unlike(shelf), model.unlike(shelf));
                break;
        }
    }
}
