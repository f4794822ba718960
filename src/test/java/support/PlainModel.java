import java.nio.charset.StandardCharsets;
import java.util.ArrayDeque;
import java.util.ArrayList;
import java.util.Arrays;
import java.util.HashMap;
import java.util.HashSet;
import java.util.List;
import java.util.Map;
import java.util.NoSuchElementException;
import java.util.Set;
import java.util.TreeSet;
import java.util.regex.Matcher;
import java.util.regex.Pattern;

/**
 * The document once more, as slow and plain as can be, with the Java library: what TripleSieve answers is
 * compared with it. It shares no code and no trick with the class (sets in place of counts, whole states kept for
 * undo, every row of KEYS tried for mend, a regular expression for TEXT).
 */
final class PlainModel {
    static final Pattern TOKEN = Pattern.compile("[a-z]+|[0-9]+|;|[^ \n]", Pattern.DOTALL);
    static final Pattern TEXT = Pattern.compile(
        "(cN;)?(pN;)?(bN;)?(sN;)?(w[qtl];)?(d[aof];)?(kN(iN)?;)*");
    static final Map<String, Character> WORDS = new HashMap<>();

    static {
        String[] names = "cells prints bits seed way spread key is queue stack least apart close free".split(" ");
        String codes = "cpbswdkiqtlaof";
        for (int i = 0; i < names.length; i++) {
            WORDS.put(names[i], codes.charAt(i));
        }
    }

    static final class Key {
        final long number;
        final int value;

        Key(long number, int value) {
            this.number = number;
            this.value = value;
        }
    }

    static final class State {
        List<Key> keys = new ArrayList<>();
        int[] settings = {0, 16, 8, 4, 1, 0, 0};

        State twin() {
            State s = new State();
            s.keys = new ArrayList<>(keys);
            s.settings = settings.clone();
            return s;
        }
    }

    static final class Built {
        int seed;
        int[] settings;
        int keys;
        int tried;
        int[] prints;
        int[] values;
    }

    static final class Peeled {
        final List<Integer> keys = new ArrayList<>();
        final List<Integer> cells = new ArrayList<>();
        final TreeSet<Integer> core = new TreeSet<>();
    }

    private StringBuilder tape = new StringBuilder();
    private State now = new State();
    private final ArrayDeque<State> past = new ArrayDeque<>();
    private Built sieve;
    private final Built[] shelves = new Built[2];

    int feed(int a, int b, int c, int d, int e) {
        if (tape.length() + 20 > 600) {
            return -1;
        }
        for (int x : new int[] {a, b, c, d, e}) {
            for (int i = 3; i >= 0; i--) {
                tape.append((char) (x >>> (8 * i) & 255));
            }
        }
        return tape.length();
    }

    boolean end(int n) {
        if (n < 0 || n > tape.length()) {
            return false;
        }
        tape.setLength(n);
        return true;
    }

    int text() {
        String all = new String(tape.toString().getBytes(StandardCharsets.ISO_8859_1), StandardCharsets.ISO_8859_1);
        tape = new StringBuilder();
        List<String> tokens = new ArrayList<>();
        List<Integer> places = new ArrayList<>();
        StringBuilder codes = new StringBuilder();
        Matcher m = TOKEN.matcher(all);
        while (m.find()) {
            tokens.add(m.group());
            places.add(m.start());
            codes.append(code(m.group()));
        }
        List<int[]> faults = new ArrayList<>();
        int good = 0;
        while (good < codes.length() && goesOn(codes.substring(0, good + 1))) {
            good++;
        }
        if (good < codes.length()) {
            faults.add(new int[] {places.get(good), 1});
        } else if (!TEXT.matcher(codes).matches()) {
            faults.add(new int[] {all.length(), 1});
        }
        State read = new State();
        readInto(read, tokens.subList(0, good), places, codes, faults);
        if (!faults.isEmpty()) {
            faults.sort((x, y) -> x[0] != y[0] ? Integer.compare(x[0], y[0]) : Integer.compare(x[1], y[1]));
            return -2 - (8 * faults.get(0)[0] + faults.get(0)[1]);
        }
        now = read;
        past.clear();
        sieve = null;
        Arrays.fill(shelves, null);
        return now.keys.size();
    }

    private static char code(String token) {
        char c = token.charAt(0);
        if (c >= '0' && c <= '9') {
            return token.length() <= 9 ? 'N' : '?';
        }
        if (c == ';') {
            return ';';
        }
        return WORDS.getOrDefault(token, '?');
    }

    private static boolean goesOn(String codes) {
        Matcher m = TEXT.matcher(codes);
        return m.matches() || m.hitEnd();
    }

    private static void readInto(State read, List<String> tokens, List<Integer> places, CharSequence codes,
            List<int[]> faults) {
        int told = 0;
        for (int i = 0; i < tokens.size(); i++) {
            char code = codes.charAt(i);
            char ahead = i == 0 ? ' ' : codes.charAt(i - 1);
            int at = places.get(i);
            int setting = "cpbs".indexOf(ahead) + 1;
            if (code == 'k') {
                told++;
                if (told > 48) {
                    faults.add(new int[] {at, 4});
                }
            } else if (code == 'N') {
                int number = Integer.parseInt(tokens.get(i));
                if (ahead == 'k') {
                    if (read.keys.stream().anyMatch(k -> k.number == number)) {
                        faults.add(new int[] {at, 2});
                    }
                    read.keys.add(new Key(number, 0));
                } else if (ahead == 'i') {
                    if (number >= Math.pow(2, read.settings[3])) {
                        faults.add(new int[] {at, 3});
                    }
                    Key last = read.keys.remove(read.keys.size() - 1);
                    read.keys.add(new Key(last.number, number));
                } else {
                    if (!settingCanBe(setting, number)) {
                        faults.add(new int[] {at, 3});
                    }
                    read.settings[setting] = number;
                }
            } else if (ahead == 'w') {
                read.settings[5] = "qtl".indexOf(code);
            } else if (ahead == 'd') {
                read.settings[6] = "aof".indexOf(code);
            }
        }
    }

    private static boolean settingCanBe(int what, int v) {
        switch (what) {
            case 1: return 1 <= v && v <= 32;
            case 2: return 1 <= v && v <= 16;
            case 3: return 0 <= v && v <= 8;
            case 4: return 0 <= v && v <= 999_999_999;
            case 5: return 0 <= v && v <= 2;
            case 6: return 0 <= v && v <= 2;
            default: return false;
        }
    }

    private boolean isKey(int k) {
        return 0 <= k && k < now.keys.size();
    }

    private boolean isValue(int v) {
        return 0 <= v && v < Math.pow(2, now.settings[3]);
    }

    private int find(long number) {
        for (int k = 0; k < now.keys.size(); k++) {
            if (now.keys.get(k).number == number) {
                return k;
            }
        }
        return -1;
    }

    private void act() {
        past.addLast(now.twin());
        if (past.size() > 12) {
            past.removeFirst();
        }
    }

    long key(int k) {
        if (!isKey(k)) {
            throw new NoSuchElementException();
        }
        return now.keys.get(k).number;
    }

    int worth(int k) {
        return isKey(k) ? now.keys.get(k).value : -1;
    }

    int add(long number, int value) {
        if (now.keys.size() == 48 || !isValue(value)) {
            return -1;
        }
        if (find(number) >= 0) {
            return -2;
        }
        act();
        now.keys.add(new Key(number, value));
        return now.keys.size();
    }

    int gone(long number) {
        int k = find(number);
        if (k >= 0) {
            act();
            now.keys.remove(k);
        }
        return k;
    }

    int turn(int k, int value) {
        if (!isKey(k) || !isValue(value)) {
            return -1;
        }
        act();
        return now.keys.set(k, new Key(now.keys.get(k).number, value)).value;
    }

    int set(int what, int v) {
        if (!settingCanBe(what, v)) {
            return -1;
        }
        if (what == 3 && now.keys.stream().anyMatch(k -> k.value >= Math.pow(2, v))) {
            return -1;
        }
        act();
        int was = now.settings[what];
        now.settings[what] = v;
        return was;
    }

    static long mix(long x) {
        long y = (x ^ (x >>> 30)) * -4658895280553007687L;
        long z = (y ^ (y >>> 27)) * -7723592293110705685L;
        return z ^ (z >>> 31);
    }

    long hash(long number, int seed) {
        return mix(number + mix(seed));
    }

    private int[] three(long number, int seed, int cells, int spread) {
        long h = hash(number, seed);
        long[] part = new long[3];
        for (int j = 0; j < 3; j++) {
            part[j] = (h >>> (16 + 16 * j)) % 65536;
            if (part[j] < 0) {
                throw new AssertionError("a PART below 0");
            }
        }
        int[] t = new int[3];
        for (int j = 0; j < 3; j++) {
            if (spread == 0) {
                t[j] = (int) (j * cells + part[j] * cells / 65536);
            } else if (spread == 2 || j == 0) {
                t[j] = (int) (part[j] * 3 * cells / 65536);
            } else {
                t[j] = (int) ((t[j - 1] + 1 + part[j] * cells / 65536) % (3 * cells));
            }
        }
        return t;
    }

    private int printOf(long number, int seed, int prints) {
        long h = hash(number, seed);
        return (int) ((h ^ (h >>> 32)) & ((1L << prints) - 1));
    }

    private TreeSet<Integer> touched(long number, int seed, int cells, int spread) {
        TreeSet<Integer> odd = new TreeSet<>();
        for (int c : three(number, seed, cells, spread)) {
            if (!odd.add(c)) {
                odd.remove(c);
            }
        }
        return odd;
    }

    int cell(long number, int j) {
        return j < 0 || j > 2 ? -1 : three(number, now.settings[4], now.settings[1], now.settings[6])[j];
    }

    int print(long number) {
        return printOf(number, now.settings[4], now.settings[2]);
    }

    private List<TreeSet<Integer>> allTouched(int seed, int cells) {
        List<TreeSet<Integer>> all = new ArrayList<>();
        for (Key k : now.keys) {
            all.add(touched(k.number, seed, cells, now.settings[6]));
        }
        return all;
    }

    private List<TreeSet<Integer>> nowTouched() {
        return allTouched(now.settings[4], now.settings[1]);
    }

    int load(int cell) {
        if (cell < 0 || cell >= 3 * now.settings[1]) {
            return -1;
        }
        return (int) nowTouched().stream().filter(t -> t.contains(cell)).count();
    }

    int twins() {
        List<TreeSet<Integer>> all = nowTouched();
        int n = 0;
        for (int i = 0; i < all.size(); i++) {
            for (int k = i + 1; k < all.size(); k++) {
                n += all.get(i).equals(all.get(k)) ? 1 : 0;
            }
        }
        return n;
    }

    /** The KEY that alone TOUCHES a cell, or -1. */
    private static int aloneAt(List<TreeSet<Integer>> all, Set<Integer> left, int cell) {
        int found = -1;
        for (int k : left) {
            if (all.get(k).contains(cell)) {
                if (found >= 0) {
                    return -1;
                }
                found = k;
            }
        }
        return found;
    }

    private static Peeled peelAll(List<TreeSet<Integer>> all, int row, int way) {
        Peeled p = new Peeled();
        for (int k = 0; k < all.size(); k++) {
            p.core.add(k);
        }
        List<Integer> line = new ArrayList<>();
        for (int c = 0; c < row; c++) {
            if (aloneAt(all, p.core, c) >= 0) {
                line.add(c);
            }
        }
        while (!line.isEmpty()) {
            int cell = way == 1 ? line.remove(line.size() - 1) : line.remove(0);
            int k = aloneAt(all, p.core, cell);
            if (k >= 0) {
                p.core.remove(k);
                p.keys.add(k);
                p.cells.add(cell);
                for (int c : all.get(k)) {
                    if (c != cell && aloneAt(all, p.core, c) >= 0) {
                        line.add(c);
                    }
                }
            }
            if (way == 2) {
                line.clear();
                for (int c = 0; c < row; c++) {
                    if (aloneAt(all, p.core, c) >= 0) {
                        line.add(c);
                    }
                }
            }
        }
        return p;
    }

    private Peeled nowPeeled() {
        return peelAll(nowTouched(), 3 * now.settings[1], now.settings[5]);
    }

    int peel(int i, int what) {
        Peeled p = nowPeeled();
        if (i == -1 && what == 0) {
            return p.keys.size();
        }
        if (i < 0 || i >= p.keys.size() || (what != 0 && what != 1)) {
            return -1;
        }
        return what == 0 ? p.keys.get(i) : p.cells.get(i);
    }

    int core(int i) {
        List<Integer> core = new ArrayList<>(nowPeeled().core);
        if (i == -1) {
            return core.size();
        }
        return i < 0 || i >= core.size() ? -2 : core.get(i);
    }

    int level(int k) {
        if (k != -1 && !isKey(k)) {
            return -1;
        }
        List<TreeSet<Integer>> all = nowTouched();
        Set<Integer> left = new TreeSet<>();
        for (int i = 0; i < all.size(); i++) {
            left.add(i);
        }
        Map<Integer, Integer> level = new HashMap<>();
        int round = 0;
        while (true) {
            Set<Integer> going = new HashSet<>();
            for (int c = 0; c < 3 * now.settings[1]; c++) {
                int a = aloneAt(all, left, c);
                if (a >= 0) {
                    going.add(a);
                }
            }
            if (going.isEmpty()) {
                break;
            }
            round++;
            for (int g : going) {
                level.put(g, round);
            }
            left.removeAll(going);
        }
        return k == -1 ? round : level.getOrDefault(k, -2);
    }

    int rank() {
        List<Set<Integer>> steps = new ArrayList<>();
        List<Integer> leads = new ArrayList<>();
        for (TreeSet<Integer> t : nowTouched()) {
            Set<Integer> x = new TreeSet<>(t);
            for (int i = 0; i < steps.size(); i++) {
                if (x.contains(leads.get(i))) {
                    Set<Integer> y = new TreeSet<>(x);
                    y.removeAll(steps.get(i));
                    Set<Integer> z = new TreeSet<>(steps.get(i));
                    z.removeAll(x);
                    y.addAll(z);
                    x = y;
                }
            }
            if (!x.isEmpty()) {
                steps.add(x);
                leads.add(x.iterator().next());
            }
        }
        return steps.size();
    }

    private static boolean noneStuckWithout(List<TreeSet<Integer>> all, int row, List<Integer> out) {
        List<TreeSet<Integer>> rest = new ArrayList<>();
        for (int k = 0; k < all.size(); k++) {
            if (!out.contains(k)) {
                rest.add(all.get(k));
            }
        }
        // fewer sets to look through than in peelAll, as all rows of three are tried
        int[] count = new int[row];
        for (TreeSet<Integer> t : rest) {
            for (int c : t) {
                count[c]++;
            }
        }
        boolean some = true;
        while (some) {
            some = false;
            for (int i = rest.size() - 1; i >= 0; i--) {
                boolean alone = false;
                for (int c : rest.get(i)) {
                    alone |= count[c] == 1;
                }
                if (alone) {
                    for (int c : rest.get(i)) {
                        count[c]--;
                    }
                    rest.remove(i);
                    some = true;
                }
            }
        }
        return rest.isEmpty();
    }

    private List<Integer> fewest() {
        List<TreeSet<Integer>> all = nowTouched();
        int row = 3 * now.settings[1];
        int n = all.size();
        if (noneStuckWithout(all, row, List.of())) {
            return List.of();
        }
        for (int a = 0; a < n; a++) {
            if (noneStuckWithout(all, row, List.of(a))) {
                return List.of(a);
            }
        }
        for (int a = 0; a < n; a++) {
            for (int b = a + 1; b < n; b++) {
                if (noneStuckWithout(all, row, List.of(a, b))) {
                    return List.of(a, b);
                }
            }
        }
        for (int a = 0; a < n; a++) {
            for (int b = a + 1; b < n; b++) {
                for (int c = b + 1; c < n; c++) {
                    if (noneStuckWithout(all, row, List.of(a, b, c))) {
                        return List.of(a, b, c);
                    }
                }
            }
        }
        return null;
    }

    int mend(int i) {
        List<Integer> few = fewest();
        if (few == null) {
            return -2;
        }
        if (i == -1) {
            return few.size();
        }
        return i < 0 || i >= few.size() ? -2 : few.get(i);
    }

    private boolean noneStuck(int seed, int cells) {
        return noneStuckWithout(allTouched(seed, cells), 3 * cells, List.of());
    }

    int tight() {
        for (int cells = 1; cells <= 32; cells++) {
            if (noneStuck(now.settings[4], cells)) {
                return cells;
            }
        }
        return -2;
    }

    int peels(int m) {
        if (m < 1 || m > 200) {
            return -1;
        }
        int n = 0;
        for (int s = 0; s < m; s++) {
            n += noneStuck(now.settings[4] + s, now.settings[1]) ? 1 : 0;
        }
        return n;
    }

    private int[] fill(List<TreeSet<Integer>> all, Peeled p, int row, int[] goals) {
        int[] cells = new int[row];
        for (int i = p.keys.size() - 1; i >= 0; i--) {
            int k = p.keys.get(i);
            int x = goals[k];
            for (int c : all.get(k)) {
                if (c != p.cells.get(i)) {
                    x ^= cells[c];
                }
            }
            cells[p.cells.get(i)] = x;
        }
        return cells;
    }

    private int[] values() {
        return now.keys.stream().mapToInt(k -> k.value).toArray();
    }

    int wake(int k, int value) {
        if (!isKey(k) || !isValue(value)) {
            return -1;
        }
        Peeled p = nowPeeled();
        if (!p.core.isEmpty()) {
            return -2;
        }
        int row = 3 * now.settings[1];
        int[] goals = values();
        int[] one = fill(nowTouched(), p, row, goals);
        goals[k] = value;
        int[] other = fill(nowTouched(), p, row, goals);
        int n = 0;
        for (int c = 0; c < row; c++) {
            n += one[c] != other[c] ? 1 : 0;
        }
        return n;
    }

    int build(int m) {
        if (m < 1 || m > 99) {
            return -1;
        }
        for (int s = 0; s < m; s++) {
            int seed = now.settings[4] + s;
            int row = 3 * now.settings[1];
            List<TreeSet<Integer>> all = allTouched(seed, now.settings[1]);
            Peeled p = peelAll(all, row, now.settings[5]);
            if (p.core.isEmpty()) {
                Built b = new Built();
                b.seed = seed;
                b.settings = now.settings.clone();
                b.keys = now.keys.size();
                b.tried = s + 1;
                b.prints = fill(all, p, row,
                    now.keys.stream().mapToInt(k -> printOf(k.number, seed, now.settings[2])).toArray());
                b.values = fill(all, p, row, values());
                sieve = b;
                return s + 1;
            }
        }
        return -2;
    }

    int built(int what) {
        if (sieve == null) {
            return -1;
        }
        switch (what) {
            case 0: return sieve.seed;
            case 1: return sieve.settings[1];
            case 2: return sieve.settings[2];
            case 3: return sieve.settings[3];
            case 4: return sieve.settings[6];
            case 5: return sieve.keys;
            case 6: return sieve.tried;
            case 7: return sieve.prints.length * (sieve.settings[2] + sieve.settings[3]);
            default: return -1;
        }
    }

    int filled(int cell, boolean value) {
        if (sieve == null || cell < 0 || cell >= sieve.prints.length) {
            return -1;
        }
        return (value ? sieve.values : sieve.prints)[cell];
    }

    private int sumOf(long number, int[] cells) {
        int x = 0;
        for (int c : touched(number, sieve.seed, sieve.settings[1], sieve.settings[6])) {
            x ^= cells[c];
        }
        return x;
    }

    boolean passes(long number) {
        return sieve != null && printOf(number, sieve.seed, sieve.settings[2]) == sumOf(number, sieve.prints);
    }

    int told(long number) {
        return sieve == null ? -1 : sumOf(number, sieve.values);
    }

    int right() {
        if (sieve == null) {
            return -1;
        }
        return (int) now.keys.stream().filter(k -> passes(k.number) && told(k.number) == k.value).count();
    }

    int strangers(long from, int span, int k) {
        if (sieve == null || span < 1 || span > 1000) {
            return -1;
        }
        List<Integer> met = new ArrayList<>();
        for (int i = 0; i < span; i++) {
            if (passes(from + i) && find(from + i) < 0) {
                met.add(i);
            }
        }
        if (k == -1) {
            return met.size();
        }
        return k < 0 || k >= met.size() ? -2 : met.get(k);
    }

    boolean shelf(int k, boolean back) {
        if (k < 0 || k > 1 || (back ? shelves[k] : sieve) == null) {
            return false;
        }
        if (back) {
            sieve = shelves[k];
        } else {
            shelves[k] = sieve;
        }
        return true;
    }

    int unlike(int k) {
        if (k < 0 || k > 1 || sieve == null || shelves[k] == null) {
            return -1;
        }
        if (sieve.prints.length != shelves[k].prints.length) {
            return -2;
        }
        int n = 0;
        for (int c = 0; c < sieve.prints.length; c++) {
            n += sieve.prints[c] != shelves[k].prints[c] || sieve.values[c] != shelves[k].values[c] ? 1 : 0;
        }
        return n;
    }

    int undo() {
        if (past.isEmpty()) {
            return -1;
        }
        now = past.removeLast();
        return past.size();
    }

    int count(int what) {
        if (what >= 1 && what <= 6) {
            return now.settings[what];
        }
        switch (what) {
            case 0: return now.keys.size();
            case 7: return past.size();
            case 8: return tape.length();
            case 9:
                Set<Integer> touched = new HashSet<>();
                nowTouched().forEach(touched::addAll);
                return 3 * now.settings[1] - touched.size();
            case 10: return sieve == null ? 0 : 1;
            default: return -1;
        }
    }
}
