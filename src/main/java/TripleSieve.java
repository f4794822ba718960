import java.util.Arrays;
import java.util.NoSuchElementException;

/**
 * KEYS with small VALUES, peeled off a ROW of cells and filled into a sieve.
 * The document's numbered promises say what each call answers; words in capitals are its terms.
 */
public final class TripleSieve {
    public static final int NONE = -1;

    /** The document's second refusal, where NONE has another meaning. */
    private static final int LACK = -2;

    private static final int MOST_BYTES = 600;
    private static final int FEED_BYTES = 20;
    private static final int MOST_KEYS = 48;
    private static final int MOST_CELLS = 32;
    private static final int MOST_ROW = 3 * MOST_CELLS;
    private static final int MOST_ACTS = 12;
    private static final int MOST_MENDS = 3;
    private static final int MOST_PEELS = 200;
    private static final int MOST_BUILDS = 99;
    private static final int MOST_SPAN = 1000;
    private static final int SHELVES = 2;

    private static final int CELLS = 1;
    private static final int PRINTS = 2;
    private static final int BITS = 3;
    private static final int SEED = 4;
    private static final int WAY = 5;
    private static final int SPREAD = 6;

    private static final int STACK = 1;
    private static final int LEAST = 2;
    private static final int APART = 0;
    private static final int CLOSE = 1;

    /** By the numbers of the SETTINGS: the bounds, and what holds if it is not given. */
    private static final int[] LOWEST = {0, 1, 1, 0, 0, 0, 0};
    private static final int[] HIGHEST = {0, MOST_CELLS, 16, 8, 999999999, 2, 2};
    private static final int[] UNTOLD = {0, 16, 8, 4, 1, 0, 0};

    private final Tape tape = new Tape();
    private final Reader reader = new Reader();
    private final Given given = new Given();
    private final Given draft = new Given();
    private final Acts acts = new Acts();
    private final Marks marks = new Marks();
    private final Row row = new Row();
    private final Peeling peeling = new Peeling();
    private final Rounds rounds = new Rounds();
    private final Basis basis = new Basis();
    private final Mender mender = new Mender();
    private final Sieve sieve = new Sieve();
    private final Sieve[] shelves = {new Sieve(), new Sieve()};

    public TripleSieve() {
    }

    public int feed(int a, int b, int c, int d, int e) {
        if (tape.length > MOST_BYTES - FEED_BYTES) {
            return NONE;
        }
        tape.append(a);
        tape.append(b);
        tape.append(c);
        tape.append(d);
        tape.append(e);
        return tape.length;
    }

    public boolean end(int n) {
        if (n < 0 || n > tape.length) {
            return false;
        }
        tape.length = n;
        return true;
    }

    public int text() {
        int fault = reader.read(tape, draft);
        tape.length = 0;
        if (fault != 0) {
            return LACK - fault;
        }
        given.copy(draft);
        acts.forget();
        sieve.stands = false;
        for (int k = 0; k < SHELVES; k++) {
            shelves[k].stands = false;
        }
        return given.size;
    }

    // ---- keys, settings

    public long key(int k) throws NoSuchElementException {
        if (!given.has(k)) {
            throw new NoSuchElementException();
        }
        return given.numbers[k];
    }

    public int worth(int k) {
        return given.has(k) ? given.values[k] : NONE;
    }

    public int add(long number, int value) {
        if (given.size >= MOST_KEYS || !given.canBeValue(value)) {
            return NONE;
        }
        if (given.find(number) != NONE) {
            return LACK;
        }
        acts.note(Acts.CAME, given.size, number, value);
        given.insert(given.size, number, value);
        return given.size;
    }

    public int gone(long number) {
        int k = given.find(number);
        if (k == NONE) {
            return NONE;
        }
        acts.note(Acts.WENT, k, number, given.values[k]);
        given.drop(k);
        return k;
    }

    public int turn(int k, int value) {
        if (!given.has(k) || !given.canBeValue(value)) {
            return NONE;
        }
        int was = given.values[k];
        acts.note(Acts.TURNED, k, given.numbers[k], was);
        given.revalue(k, value);
        return was;
    }

    public int set(int what, int v) {
        if (!Given.canBeSetting(what, v) || (what == BITS && !given.fitsBits(v))) {
            return NONE;
        }
        int was = given.settings[what];
        acts.note(Acts.SET, what, 0L, was);
        given.resettle(what, v);
        return was;
    }

    // ---- numbers, cells

    public long hash(long number, int seed) {
        return Marks.mix(number + Marks.mix(seed));
    }

    public int cell(long number, int j) {
        if (j < 0 || j > 2) {
            return NONE;
        }
        lookNow(number);
        return marks.three[j];
    }

    public int print(long number) {
        lookNow(number);
        return marks.print;
    }

    public int load(int cell) {
        if (cell < 0 || cell >= 3 * given.settings[CELLS]) {
            return NONE;
        }
        layNow();
        return row.loads[cell];
    }

    public int twins() {
        layNow();
        int pairs = 0;
        for (int k = 1; k < row.keys; k++) {
            for (int i = 0; i < k; i++) {
                if (row.touchSame(i, k)) {
                    pairs++;
                }
            }
        }
        return pairs;
    }

    // ---- peeling

    public int peel(int i, int what) {
        peelNow();
        if (i == NONE && what == 0) {
            return peeling.peeled;
        }
        if (i < 0 || i >= peeling.peeled || what < 0 || what > 1) {
            return NONE;
        }
        return what == 0 ? peeling.keyOf[i] : peeling.cellOf[i];
    }

    public int core(int i) {
        peelNow();
        return i == NONE ? row.left : row.leftAt(i);
    }

    public int level(int k) {
        if (k != NONE && !given.has(k)) {
            return NONE;
        }
        layNow();
        int all = rounds.run(row);
        if (k == NONE) {
            return all;
        }
        return rounds.levels[k] == 0 ? LACK : rounds.levels[k];
    }

    public int rank() {
        layNow();
        return basis.independent(row);
    }

    public int mend(int i) {
        if (mender.changes != given.changes) {
            peelNow();
            mender.search(row);
            mender.changes = given.changes;
        }
        if (i == NONE) {
            return mender.fewest;
        }
        return i < 0 || i >= mender.fewest ? LACK : mender.chosen[i];
    }

    public int tight() {
        for (int cells = 1; cells <= MOST_CELLS; cells++) {
            if (allPeel(given.settings[SEED], cells)) {
                return cells;
            }
        }
        return LACK;
    }

    public int peels(int m) {
        if (m < 1 || m > MOST_PEELS) {
            return NONE;
        }
        int good = 0;
        for (int s = 0; s < m; s++) {
            if (allPeel(given.settings[SEED] + s, given.settings[CELLS])) {
                good++;
            }
        }
        return good;
    }

    public int wake(int k, int value) {
        if (!given.has(k) || !given.canBeValue(value)) {
            return NONE;
        }
        peelNow();
        if (row.left != 0) {
            return LACK;
        }
        return given.values[k] == value ? 0 : peeling.countWoken(row, k);
    }

    // ---- the sieve

    public int build(int m) {
        if (m < 1 || m > MOST_BUILDS) {
            return NONE;
        }
        for (int s = 0; s < m; s++) {
            int seed = given.settings[SEED] + s;
            if (allPeel(seed, given.settings[CELLS])) {
                sieve.describe(given, seed, s + 1);
                peeling.fillBack(row, row.prints, sieve.prints);
                peeling.fillBack(row, given.values, sieve.values);
                return s + 1;
            }
        }
        return LACK;
    }

    public int built(int what) {
        if (!sieve.stands || what < 0 || what > Sieve.FACTS) {
            return NONE;
        }
        return what == Sieve.FACTS ? sieve.countBits() : sieve.facts[what];
    }

    public int filled(int cell, boolean value) {
        if (!sieve.stands || cell < 0 || cell >= sieve.length()) {
            return NONE;
        }
        return value ? sieve.values[cell] : sieve.prints[cell];
    }

    public boolean passes(long number) {
        if (!sieve.stands) {
            return false;
        }
        sieve.aim(marks);
        marks.look(number);
        return sieve.letsThrough(marks);
    }

    public int told(long number) {
        if (!sieve.stands) {
            return NONE;
        }
        sieve.aim(marks);
        marks.look(number);
        return marks.sum(sieve.values);
    }

    public int right() {
        if (!sieve.stands) {
            return NONE;
        }
        sieve.aim(marks);
        int good = 0;
        for (int k = 0; k < given.size; k++) {
            marks.look(given.numbers[k]);
            if (sieve.letsThrough(marks) && marks.sum(sieve.values) == given.values[k]) {
                good++;
            }
        }
        return good;
    }

    public int strangers(long from, int span, int k) {
        if (!sieve.stands || span < 1 || span > MOST_SPAN) {
            return NONE;
        }
        sieve.aim(marks);
        int met = 0;
        for (int i = 0; i < span; i++) {
            marks.look(from + i);
            if (sieve.letsThrough(marks) && given.find(from + i) == NONE) {
                if (met == k) {
                    return i;
                }
                met++;
            }
        }
        return k == NONE ? met : LACK;
    }

    public boolean shelf(int k, boolean back) {
        if (k < 0 || k >= SHELVES) {
            return false;
        }
        Sieve from = back ? shelves[k] : sieve;
        Sieve to = back ? sieve : shelves[k];
        if (!from.stands) {
            return false;
        }
        to.copy(from);
        return true;
    }

    public int unlike(int k) {
        if (k < 0 || k >= SHELVES || !sieve.stands || !shelves[k].stands) {
            return NONE;
        }
        return sieve.length() == shelves[k].length() ? sieve.countUnlike(shelves[k]) : LACK;
    }

    // ---- all

    public int undo() {
        if (acts.size == 0) {
            return NONE;
        }
        acts.undoLatest(given);
        return acts.size;
    }

    public int count(int what) {
        if (what >= CELLS && what <= SPREAD) {
            return given.settings[what];
        }
        switch (what) {
            case 0:
                return given.size;
            case 7:
                return acts.size;
            case 8:
                return tape.length;
            case 9:
                layNow();
                return row.cells - row.countTouched();
            case 10:
                return sieve.stands ? 1 : 0;
            default:
                return NONE;
        }
    }

    // ---- what several calls need

    private void lookNow(long number) {
        marks.aim(given.settings[SEED], given.settings[CELLS], given.settings[PRINTS], given.settings[SPREAD]);
        marks.look(number);
    }

    private void layNow() {
        row.lay(given, marks, given.settings[SEED], given.settings[CELLS]);
    }

    private void peelNow() {
        layNow();
        peeling.run(row, given.settings[WAY]);
    }

    private boolean allPeel(int seed, int cells) {
        row.lay(given, marks, seed, cells);
        peeling.run(row, given.settings[WAY]);
        return row.left == 0;
    }

    /** THE TAPE, and the TOKEN of it that is looked at. */
    private static final class Tape {
        private static final int END = 0;
        private static final int WORD = 1;
        private static final int NUMBER = 2;
        private static final int STOP = 3;
        private static final int WRONG = 4;

        private static final int MOST_LETTERS = 6;
        private static final int MOST_DIGITS = 9;
        private static final int MOST_NUMBER = 999999999;

        private final byte[] bytes = new byte[MOST_BYTES];
        private int length;
        private int kind;
        private int start;
        private int behind;
        private int number;

        private void append(int four) {
            for (int shift = 24; shift >= 0 && length < MOST_BYTES; shift -= 8) {
                bytes[length] = (byte) (four >> shift);
                length++;
            }
        }

        private void rewind() {
            behind = 0;
            step();
        }

        /** Goes on to the next TOKEN. */
        private void step() {
            start = behind;
            while (start < length && (bytes[start] == 32 || bytes[start] == 10)) {
                start++;
            }
            behind = start;
            if (start >= length) {
                kind = END;
            } else if (isLetter(bytes[start])) {
                takeWord();
            } else if (isDigit(bytes[start])) {
                takeNumber();
            } else {
                kind = bytes[start] == ';' ? STOP : WRONG;
                behind++;
            }
        }

        private void takeWord() {
            while (behind < length && isLetter(bytes[behind])) {
                behind++;
            }
            kind = behind - start <= MOST_LETTERS ? WORD : WRONG;
        }

        private void takeNumber() {
            while (behind < length && isDigit(bytes[behind])) {
                behind++;
            }
            kind = behind - start <= MOST_DIGITS ? NUMBER : WRONG;
            number = 0;
            if (kind == NUMBER) {
                for (int i = start; i < behind; i++) {
                    number = 10 * number + bytes[i] - '0';
                }
            }
        }

        private boolean isWord(String word) {
            if (kind != WORD || behind - start != word.length()) {
                return false;
            }
            for (int i = 0; i < word.length(); i++) {
                if (bytes[start + i] != word.charAt(i)) {
                    return false;
                }
            }
            return true;
        }

        private static boolean isLetter(byte b) {
            return b >= 'a' && b <= 'z';
        }

        private static boolean isDigit(byte b) {
            return b >= '0' && b <= '9';
        }
    }

    /** Reads THE TAPE as a TEXT, up to its end or its first FAULT. */
    private static final class Reader {
        private static final int NO_TEXT = 1;
        private static final int TOLD_ALREADY = 2;
        private static final int CANT_BE = 3;
        private static final int TOO_MANY = 4;

        private int fault;

        /** 8 * place + kind of the FAULT, or 0; without one the TEXT stands in the draft. */
        private int read(Tape tape, Given draft) {
            fault = 0;
            draft.reset();
            tape.rewind();
            for (int what = CELLS; what <= SPREAD && fault == 0; what++) {
                readSetting(tape, draft, what);
            }
            // one turn more than KEYS can stand, for the WORD key of one too many
            for (int i = 0; i <= MOST_KEYS && fault == 0 && tape.kind != Tape.END; i++) {
                readKey(tape, draft);
            }
            return fault;
        }

        private void readSetting(Tape tape, Given draft, int what) {
            if (!tape.isWord(nameOf(what))) {
                return;
            }
            tape.step();
            int v = what < WAY ? takeNumber(tape, LOWEST[what], HIGHEST[what]) : takeChoice(tape, what);
            passStop(tape);
            if (fault == 0) {
                draft.resettle(what, v);
            }
        }

        private void readKey(Tape tape, Given draft) {
            if (!tape.isWord("key")) {
                fail(tape, NO_TEXT);
                return;
            }
            if (draft.size >= MOST_KEYS) {
                fail(tape, TOO_MANY);
                return;
            }
            tape.step();
            if (tape.kind == Tape.NUMBER && draft.find(tape.number) != NONE) {
                fail(tape, TOLD_ALREADY);
                return;
            }
            int number = takeNumber(tape, 0, Tape.MOST_NUMBER);
            int value = takeValue(tape, draft);
            passStop(tape);
            if (fault == 0) {
                draft.insert(draft.size, number, value);
            }
        }

        private int takeValue(Tape tape, Given draft) {
            if (fault != 0 || !tape.isWord("is")) {
                return 0;
            }
            tape.step();
            return takeNumber(tape, 0, (1 << draft.settings[BITS]) - 1);
        }

        private int takeNumber(Tape tape, int least, int most) {
            if (tape.kind != Tape.NUMBER) {
                fail(tape, NO_TEXT);
                return 0;
            }
            int number = tape.number;
            if (number < least || number > most) {
                fail(tape, CANT_BE);
                return 0;
            }
            tape.step();
            return number;
        }

        private int takeChoice(Tape tape, int what) {
            for (int v = LOWEST[what]; v <= HIGHEST[what]; v++) {
                if (tape.isWord(choiceOf(what, v))) {
                    tape.step();
                    return v;
                }
            }
            fail(tape, NO_TEXT);
            return 0;
        }

        private void passStop(Tape tape) {
            if (fault != 0) {
                return;
            }
            if (tape.kind == Tape.STOP) {
                tape.step();
            } else {
                fail(tape, NO_TEXT);
            }
        }

        private void fail(Tape tape, int kind) {
            fault = 8 * tape.start + kind;
        }

        private static String nameOf(int what) {
            switch (what) {
                case CELLS:
                    return "cells";
                case PRINTS:
                    return "prints";
                case BITS:
                    return "bits";
                case SEED:
                    return "seed";
                case WAY:
                    return "way";
                default:
                    return "spread";
            }
        }

        private static String choiceOf(int what, int v) {
            switch (v) {
                case 0:
                    return what == WAY ? "queue" : "apart";
                case 1:
                    return what == WAY ? "stack" : "close";
                default:
                    return what == WAY ? "least" : "free";
            }
        }
    }

    /** KEYS with their VALUES, and SETTINGS. */
    private static final class Given {
        private final long[] numbers = new long[MOST_KEYS];
        private final int[] values = new int[MOST_KEYS];
        private final int[] settings = UNTOLD.clone();
        private int size;
        /** Grows with each change, so that what was found out can be known to hold still. */
        private int changes;

        private void reset() {
            size = 0;
            System.arraycopy(UNTOLD, 0, settings, 0, UNTOLD.length);
            changes++;
        }

        private void copy(Given other) {
            System.arraycopy(other.numbers, 0, numbers, 0, MOST_KEYS);
            System.arraycopy(other.values, 0, values, 0, MOST_KEYS);
            System.arraycopy(other.settings, 0, settings, 0, UNTOLD.length);
            size = other.size;
            changes++;
        }

        private boolean has(int k) {
            return k >= 0 && k < size;
        }

        private int find(long number) {
            for (int k = 0; k < size; k++) {
                if (numbers[k] == number) {
                    return k;
                }
            }
            return NONE;
        }

        private void insert(int k, long number, int value) {
            if (k < 0 || k > size || size >= MOST_KEYS) {
                return;
            }
            System.arraycopy(numbers, k, numbers, k + 1, size - k);
            System.arraycopy(values, k, values, k + 1, size - k);
            numbers[k] = number;
            values[k] = value;
            size++;
            changes++;
        }

        private void drop(int k) {
            if (!has(k)) {
                return;
            }
            size--;
            System.arraycopy(numbers, k + 1, numbers, k, size - k);
            System.arraycopy(values, k + 1, values, k, size - k);
            changes++;
        }

        private void revalue(int k, int value) {
            if (has(k)) {
                values[k] = value;
                changes++;
            }
        }

        private void resettle(int what, int v) {
            if (canBeSetting(what, v)) {
                settings[what] = v;
                changes++;
            }
        }

        private boolean canBeValue(int value) {
            return value >= 0 && value < 1 << settings[BITS];
        }

        private boolean fitsBits(int bits) {
            for (int k = 0; k < size; k++) {
                if (values[k] >= 1 << bits) {
                    return false;
                }
            }
            return true;
        }

        private static boolean canBeSetting(int what, int v) {
            return what >= CELLS && what <= SPREAD && v >= LOWEST[what] && v <= HIGHEST[what];
        }
    }

    /** The last ACTS, in a ring: the latest one over 12 takes the oldest one's place. */
    private static final class Acts {
        private static final int CAME = 0;
        private static final int WENT = 1;
        private static final int TURNED = 2;
        private static final int SET = 3;

        private final int[] kinds = new int[MOST_ACTS];
        /** Which KEY or SETTING it was about. */
        private final int[] places = new int[MOST_ACTS];
        private final long[] numbers = new long[MOST_ACTS];
        private final int[] values = new int[MOST_ACTS];
        private int next;
        private int size;

        private void forget() {
            size = 0;
        }

        private void note(int kind, int place, long number, int value) {
            kinds[next] = kind;
            places[next] = place;
            numbers[next] = number;
            values[next] = value;
            next = next + 1 < MOST_ACTS ? next + 1 : 0;
            size = Math.min(size + 1, MOST_ACTS);
        }

        private void undoLatest(Given given) {
            if (size == 0) {
                return;
            }
            next = next > 0 ? next - 1 : MOST_ACTS - 1;
            size--;
            switch (kinds[next]) {
                case CAME:
                    given.drop(places[next]);
                    break;
                case WENT:
                    given.insert(places[next], numbers[next], values[next]);
                    break;
                case TURNED:
                    given.revalue(places[next], values[next]);
                    break;
                default:
                    given.resettle(places[next], values[next]);
                    break;
            }
        }
    }

    /** What a SEED makes of one number: THREE cells, those that it TOUCHES, and a PRINT. */
    private static final class Marks {
        private static final long FIRST_FACTOR = -4658895280553007687L;
        private static final long SECOND_FACTOR = -7723592293110705685L;

        private final int[] three = new int[3];
        /** By numbers; so many of them as touches says. */
        private final int[] touched = new int[3];
        private int touches;
        private int print;

        private long seedMix;
        private int cells;
        private int printMask;
        private int spread;

        private static long mix(long x) {
            long y = (x ^ (x >>> 30)) * FIRST_FACTOR;
            long z = (y ^ (y >>> 27)) * SECOND_FACTOR;
            return z ^ (z >>> 31);
        }

        private void aim(int seed, int cells, int prints, int spread) {
            this.seedMix = mix(seed);
            this.cells = cells;
            this.printMask = (1 << prints) - 1;
            this.spread = spread;
        }

        private void look(long number) {
            long hash = mix(number + seedMix);
            print = (int) (hash ^ (hash >>> 32)) & printMask;
            if (spread == APART) {
                placeApart(hash);
            } else if (spread == CLOSE) {
                placeClose(hash);
            } else {
                placeFree(hash);
            }
            gatherTouched();
        }

        private void placeApart(long hash) {
            for (int j = 0; j < 3; j++) {
                three[j] = j * cells + share(hash, j, cells);
            }
        }

        private void placeClose(long hash) {
            int row = 3 * cells;
            three[0] = share(hash, 0, row);
            for (int j = 1; j < 3; j++) {
                int place = three[j - 1] + 1 + share(hash, j, cells);
                three[j] = place < row ? place : place - row;
            }
        }

        private void placeFree(long hash) {
            for (int j = 0; j < 3; j++) {
                three[j] = share(hash, j, 3 * cells);
            }
        }

        /** PART j * of / 65536, rounded down: 0 up to of - 1. */
        private static int share(long hash, int j, int of) {
            int part = (int) (hash >>> (16 + 16 * j)) & 65535;
            return part * of >>> 16;
        }

        /** Two that are the same cell are an even number of times there, so the third alone is touched. */
        private void gatherTouched() {
            int a = three[0];
            int b = three[1];
            int c = three[2];
            if (a == b) {
                touchOnly(c);
            } else if (a == c) {
                touchOnly(b);
            } else if (b == c) {
                touchOnly(a);
            } else {
                touched[0] = Math.min(a, Math.min(b, c));
                touched[2] = Math.max(a, Math.max(b, c));
                touched[1] = a + b + c - touched[0] - touched[2];
                touches = 3;
            }
        }

        private void touchOnly(int cell) {
            touched[0] = cell;
            touches = 1;
        }

        private int sum(int[] cellValues) {
            int all = 0;
            for (int t = 0; t < touches; t++) {
                all ^= cellValues[touched[t]];
            }
            return all;
        }
    }

    /** KEYS on the ROW as one SEED lays them; they can be taken off it and put back. */
    private static final class Row {
        /** Three places for each KEY: the cells that it TOUCHES, by numbers. */
        private final int[] touched = new int[3 * MOST_KEYS];
        private final int[] touches = new int[MOST_KEYS];
        private final int[] prints = new int[MOST_KEYS];
        private final boolean[] off = new boolean[MOST_KEYS];
        /** How many KEYS that are left TOUCH a cell. */
        private final int[] loads = new int[MOST_ROW];
        /** The xor of which KEYS these are: where there is one alone, it is that KEY. */
        private final int[] mixes = new int[MOST_ROW];
        private int keys;
        private int left;
        private int cells;

        private void lay(Given given, Marks marks, int seed, int cellsOfBlock) {
            marks.aim(seed, cellsOfBlock, given.settings[PRINTS], given.settings[SPREAD]);
            keys = given.size;
            left = 0;
            cells = 3 * cellsOfBlock;
            Arrays.fill(loads, 0);
            Arrays.fill(mixes, 0);
            for (int k = 0; k < keys; k++) {
                marks.look(given.numbers[k]);
                touches[k] = marks.touches;
                prints[k] = marks.print;
                for (int t = 0; t < marks.touches; t++) {
                    touched[3 * k + t] = marks.touched[t];
                }
                putBack(k);
            }
        }

        private void putBack(int k) {
            off[k] = false;
            left++;
            for (int t = 3 * k; t < 3 * k + touches[k]; t++) {
                loads[touched[t]]++;
                mixes[touched[t]] ^= k;
            }
        }

        private void takeOff(int k) {
            off[k] = true;
            left--;
            for (int t = 3 * k; t < 3 * k + touches[k]; t++) {
                loads[touched[t]]--;
                mixes[touched[t]] ^= k;
            }
        }

        /** The KEY for which a cell is ALONE; NONE if it is not. */
        private int loneKey(int cell) {
            if (cell < 0 || cell >= cells || loads[cell] != 1) {
                return NONE;
            }
            int k = mixes[cell];
            return k < 0 || k >= keys ? NONE : k;
        }

        private boolean isAlone(int cell) {
            return loneKey(cell) != NONE;
        }

        private int countTouched() {
            int count = 0;
            for (int c = 0; c < cells; c++) {
                if (loads[c] != 0) {
                    count++;
                }
            }
            return count;
        }

        /** The i-th KEY that is left, by numbers; LACK if there are not so many. */
        private int leftAt(int i) {
            int met = 0;
            for (int k = 0; k < keys; k++) {
                if (!off[k]) {
                    if (met == i) {
                        return k;
                    }
                    met++;
                }
            }
            return LACK;
        }

        private boolean touchSame(int i, int k) {
            if (touches[i] != touches[k]) {
                return false;
            }
            for (int t = 0; t < touches[i]; t++) {
                if (touched[3 * i + t] != touched[3 * k + t]) {
                    return false;
                }
            }
            return true;
        }
    }

    /** PEELING: in which order KEYS go, and by which cells; and the filling back. */
    private static final class Peeling {
        private final int[] keyOf = new int[MOST_KEYS];
        private final int[] cellOf = new int[MOST_KEYS];
        private int peeled;

        /** No cell comes into line twice, as it gets ALONE once: one place a cell is enough. */
        private final int[] line = new int[MOST_ROW];
        private int head;
        private int tail;

        private final int[] goals = new int[MOST_KEYS];
        private final int[] woken = new int[MOST_ROW];

        private void run(Row row, int way) {
            peeled = 0;
            if (way == LEAST) {
                runLeast(row);
            } else {
                runLine(row, way == STACK);
            }
        }

        private void runLine(Row row, boolean stack) {
            head = 0;
            tail = 0;
            for (int c = 0; c < row.cells; c++) {
                lineUp(row, c);
            }
            for (int i = 0; i < MOST_ROW && head < tail; i++) {
                int cell = leaveLine(stack);
                int k = row.loneKey(cell);
                if (k != NONE) {
                    goOut(row, k, cell);
                    for (int t = 3 * k; t < 3 * k + row.touches[k]; t++) {
                        lineUp(row, row.touched[t]);
                    }
                }
            }
        }

        private void lineUp(Row row, int cell) {
            if (row.isAlone(cell) && tail < MOST_ROW) {
                line[tail] = cell;
                tail++;
            }
        }

        private int leaveLine(boolean stack) {
            if (stack) {
                tail--;
                return line[tail];
            }
            head++;
            return line[head - 1];
        }

        private void runLeast(Row row) {
            int cell = 0;
            for (int i = 0; i < MOST_ROW * (MOST_KEYS + 1) && cell < row.cells; i++) {
                int k = row.loneKey(cell);
                if (k != NONE) {
                    goOut(row, k, cell);
                    // a cell that is ALONE only now may stand ahead, but not ahead of the KEY's first
                    cell = row.touched[3 * k];
                } else {
                    cell++;
                }
            }
        }

        private void goOut(Row row, int k, int cell) {
            row.takeOff(k);
            if (peeled < MOST_KEYS) {
                keyOf[peeled] = k;
                cellOf[peeled] = cell;
                peeled++;
            }
        }

        /** Each KEY that was peeled gets its goal as the xor of the cells that it TOUCHES. */
        private void fillBack(Row row, int[] goalOf, int[] cellValues) {
            Arrays.fill(cellValues, 0);
            for (int i = peeled - 1; i >= 0; i--) {
                int k = keyOf[i];
                int x = goalOf[k];
                // the cell to be filled is among them, but it is 0 still
                for (int t = 3 * k; t < 3 * k + row.touches[k]; t++) {
                    x ^= cellValues[row.touched[t]];
                }
                cellValues[cellOf[i]] = x;
            }
        }

        /** Cells are xors of VALUES, so what differs is what would be filled for this difference alone. */
        private int countWoken(Row row, int k) {
            Arrays.fill(goals, 0);
            goals[k] = 1;
            fillBack(row, goals, woken);
            int count = 0;
            for (int c = 0; c < row.cells; c++) {
                count += woken[c];
            }
            return count;
        }
    }

    /** ROUNDS: the LEVEL of each KEY, 0 if it is STUCK. */
    private static final class Rounds {
        private final int[] levels = new int[MOST_KEYS];

        private int run(Row row) {
            Arrays.fill(levels, 0);
            for (int round = 1; round <= MOST_KEYS; round++) {
                if (!mark(row, round)) {
                    return round - 1;
                }
                takeMarked(row, round);
            }
            return MOST_KEYS;
        }

        private boolean mark(Row row, int round) {
            boolean some = false;
            for (int c = 0; c < row.cells; c++) {
                int k = row.loneKey(c);
                if (k != NONE) {
                    levels[k] = round;
                    some = true;
                }
            }
            return some;
        }

        private void takeMarked(Row row, int round) {
            for (int k = 0; k < row.keys; k++) {
                if (levels[k] == round) {
                    row.takeOff(k);
                }
            }
        }
    }

    /** RANK: KEYS as sets of cells, two longs each, brought into steps by xor. */
    private static final class Basis {
        private final long[] lows = new long[MOST_KEYS];
        private final long[] highs = new long[MOST_KEYS];
        private int size;

        private int independent(Row row) {
            size = 0;
            for (int k = 0; k < row.keys; k++) {
                long low = 0;
                long high = 0;
                for (int t = 3 * k; t < 3 * k + row.touches[k]; t++) {
                    int cell = row.touched[t];
                    low ^= cell < 64 ? 1L << cell : 0L;
                    high ^= cell < 64 ? 0L : 1L << (cell - 64);
                }
                join(low, high);
            }
            return size;
        }

        /** Each step's leading bit stands in no later step, so one way through them is enough. */
        private void join(long low, long high) {
            for (int i = 0; i < size; i++) {
                long leadLow = lows[i] & -lows[i];
                long leadHigh = leadLow == 0 ? highs[i] & -highs[i] : 0L;
                if ((low & leadLow) != 0 || (high & leadHigh) != 0) {
                    low ^= lows[i];
                    high ^= highs[i];
                }
            }
            if ((low != 0 || high != 0) && size < MOST_KEYS) {
                lows[size] = low;
                highs[size] = high;
                size++;
            }
        }
    }

    /**
     * The fewest KEYS without which none is STUCK.
     * A KEY that is not in the CORE of the others is in no such row of the fewest ones:
     * the row without it would do as well. So each choice is made in the CORE that the ones ahead leave.
     */
    private static final class Mender {
        private final int[] chosen = new int[MOST_MENDS];
        private int fewest;
        /** Of which change of KEYS and SETTINGS the answer tells. */
        private int changes = NONE;

        private final int[] trail = new int[MOST_KEYS];
        private int trailSize;
        private final int[] line = new int[MOST_ROW];
        private int lineSize;

        /** The row has its CORE alone. */
        private void search(Row row) {
            trailSize = 0;
            fewest = row.left == 0 ? 0 : LACK;
            for (int limit = 1; limit <= MOST_MENDS && fewest == LACK; limit++) {
                if (choose(row, 0, limit, 0)) {
                    fewest = limit;
                }
            }
        }

        private boolean choose(Row row, int depth, int limit, int from) {
            // a cell peels one KEY at most, so more KEYS than cells can't all be peeled
            if (depth >= limit || row.left - row.countTouched() > limit - depth) {
                return false;
            }
            for (int k = from; k < row.keys; k++) {
                if (!row.off[k]) {
                    int mark = trailSize;
                    leaveOut(row, k);
                    chosen[depth] = k;
                    if (row.left == 0 || choose(row, depth + 1, limit, k + 1)) {
                        return true;
                    }
                    bringBack(row, mark);
                }
            }
            return false;
        }

        /** Takes a KEY off, and all that can be peeled then. */
        private void leaveOut(Row row, int k) {
            lineSize = 0;
            take(row, k);
            for (int i = 0; i < MOST_ROW && lineSize > 0; i++) {
                lineSize--;
                int next = row.loneKey(line[lineSize]);
                if (next != NONE) {
                    take(row, next);
                }
            }
        }

        private void take(Row row, int k) {
            if (trailSize >= MOST_KEYS) {
                return;
            }
            trail[trailSize] = k;
            trailSize++;
            row.takeOff(k);
            for (int t = 3 * k; t < 3 * k + row.touches[k]; t++) {
                if (row.isAlone(row.touched[t]) && lineSize < MOST_ROW) {
                    line[lineSize] = row.touched[t];
                    lineSize++;
                }
            }
        }

        private void bringBack(Row row, int mark) {
            while (trailSize > mark) {
                trailSize--;
                row.putBack(trail[trailSize]);
            }
        }
    }

    /** A sieve that is FILLED, or the room for one. */
    private static final class Sieve {
        /** How many facts there are; they stand as built() numbers them. */
        private static final int FACTS = 7;
        private static final int OF_SEED = 0;
        private static final int OF_CELLS = 1;
        private static final int OF_PRINTS = 2;
        private static final int OF_BITS = 3;
        private static final int OF_SPREAD = 4;
        private static final int OF_KEYS = 5;
        private static final int OF_TRIED = 6;

        private final int[] facts = new int[FACTS];
        private final int[] prints = new int[MOST_ROW];
        private final int[] values = new int[MOST_ROW];
        private boolean stands;

        private void describe(Given given, int seed, int tried) {
            facts[OF_SEED] = seed;
            facts[OF_CELLS] = given.settings[CELLS];
            facts[OF_PRINTS] = given.settings[PRINTS];
            facts[OF_BITS] = given.settings[BITS];
            facts[OF_SPREAD] = given.settings[SPREAD];
            facts[OF_KEYS] = given.size;
            facts[OF_TRIED] = tried;
            stands = true;
        }

        private void copy(Sieve other) {
            System.arraycopy(other.facts, 0, facts, 0, FACTS);
            System.arraycopy(other.prints, 0, prints, 0, MOST_ROW);
            System.arraycopy(other.values, 0, values, 0, MOST_ROW);
            stands = other.stands;
        }

        private int length() {
            return 3 * facts[OF_CELLS];
        }

        private int countBits() {
            return length() * (facts[OF_PRINTS] + facts[OF_BITS]);
        }

        private void aim(Marks marks) {
            marks.aim(facts[OF_SEED], facts[OF_CELLS], facts[OF_PRINTS], facts[OF_SPREAD]);
        }

        /** Whether the number that the marks are of PASSES. */
        private boolean letsThrough(Marks marks) {
            return marks.print == marks.sum(prints);
        }

        private int countUnlike(Sieve other) {
            int count = 0;
            for (int c = 0; c < length(); c++) {
                if (prints[c] != other.prints[c] || values[c] != other.values[c]) {
                    count++;
                }
            }
            return count;
        }
    }
}
