import java.util.function.IntPredicate;

/** Puts a written text on a tape by feeds of twenty bytes and an end. */
final class Bytes {
    interface Feed {
        int feed(int a, int b, int c, int d, int e);
    }

    /** How many bytes the tape has then; it is to be empty ahead. */
    static int put(String text, Feed feed, IntPredicate end) {
        for (int at = 0; at < text.length(); at += 20) {
            int[] n = numbers(text, at);
            feed.feed(n[0], n[1], n[2], n[3], n[4]);
        }
        end.test(text.length());
        return text.length();
    }

    static int[] numbers(String text, int at) {
        int[] n = new int[5];
        for (int i = 0; i < 20; i++) {
            int b = at + i < text.length() ? text.charAt(at + i) & 255 : 0;
            n[i / 4] = n[i / 4] << 8 | b;
        }
        return n;
    }

    static void put(String text, TripleSieve x) {
        put(text, x::feed, x::end);
    }

    private Bytes() {
    }
}
