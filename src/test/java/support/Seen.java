/** All that can be asked of an object, written down: KEYS, SETTINGS, sieves, what undo brings back, the tape. */
final class Seen {
    /** It takes sieves from shelves, undoes all acts and reads the tape, so the object is used up. */
    static String all(TripleSieve x) {
        StringBuilder s = new StringBuilder();
        counts(s, x, 10);
        keys(s, x);
        s.append(" unlike ").append(x.unlike(0)).append(' ').append(x.unlike(1));
        sieve(s, x);
        for (int k = 0; k < 2; k++) {
            s.append(" shelf ").append(k).append(' ').append(x.shelf(k, true));
            sieve(s, x);
        }
        for (int i = 0; i < 14; i++) {
            s.append(" undo ").append(x.undo());
            counts(s, x, 7);
            int last = x.count(0) - 1;
            s.append(last < 0 ? " no key" : " " + x.key(last) + " is " + x.worth(last));
        }
        keys(s, x);
        s.append(" text ").append(x.text());
        counts(s, x, 10);
        keys(s, x);
        return s.toString();
    }

    private static void counts(StringBuilder s, TripleSieve x, int last) {
        s.append(" counts");
        for (int what = 0; what <= last; what++) {
            s.append(' ').append(x.count(what));
        }
    }

    private static void keys(StringBuilder s, TripleSieve x) {
        s.append(" keys");
        int n = x.count(0);
        for (int k = 0; k < n; k++) {
            s.append(' ').append(x.key(k)).append(" is ").append(x.worth(k));
        }
    }

    private static void sieve(StringBuilder s, TripleSieve x) {
        s.append(" sieve");
        for (int what = 0; what < 8; what++) {
            s.append(' ').append(x.built(what));
        }
        int n = 3 * x.built(1);
        for (int c = 0; c < n; c++) {
            s.append(' ').append(x.filled(c, false)).append('/').append(x.filled(c, true));
        }
    }

    private Seen() {
    }
}
