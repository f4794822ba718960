/** Picks the calls of a run; the same start always gives the same ones. */
final class Dice {
    private long state;

    Dice(long start) {
        state = start;
    }

    int any() {
        state = state * 6364136223846793005L + 1442695040888963407L;
        int bits = (int) (state >>> 32);
        return bits ^ bits >>> 15;
    }

    int below(int n) {
        return Math.floorMod(any(), n);
    }

    /** Mostly least to most, and now and then one less or more, NONE or a number far off. */
    int near(int least, int most) {
        switch (below(24)) {
            case 0:
                return least - 1;
            case 1:
                return most + 1;
            case 2:
            case 3:
                return -1;
            case 4:
                return of(-2, Integer.MIN_VALUE, Integer.MAX_VALUE, any());
            default:
                return least + below(most - least + 1);
        }
    }

    int of(int... choices) {
        return choices[below(choices.length)];
    }

    String of(String... choices) {
        return choices[below(choices.length)];
    }

    /** Few numbers, so that the same one comes, is asked for and goes again. */
    long number() {
        switch (below(20)) {
            case 0:
                return Long.MAX_VALUE - below(3);
            case 1:
                return Long.MIN_VALUE + below(3);
            case 2:
                return -1 - below(3);
            case 3:
                return (long) any() << 32 | any() & 0xFFFFFFFFL;
            default:
                return below(100);
        }
    }

    int setting(int what) {
        switch (what) {
            case 1:
                return below(3) == 0 ? near(1, 32) : near(1, 6);
            case 2:
                return near(1, 16);
            case 3:
                return near(0, 8);
            case 4:
                return below(4) == 0 ? near(999_999_990, 999_999_999) : near(0, 40);
            default:
                return near(0, 2);
        }
    }

    /** A TEXT, or nearly one. */
    String text() {
        StringBuilder s = new StringBuilder();
        int bits = 4;
        if (below(2) == 0) {
            s.append(gap()).append("cells ").append(below(9) == 0 ? near(0, 34) : 1 + below(9)).append(gap()).append(';');
        }
        if (below(3) == 0) {
            s.append(gap()).append("prints").append(gap()).append(below(9) == 0 ? below(20) : 1 + below(16)).append(";");
        }
        if (below(2) == 0) {
            bits = below(9);
            s.append("bits ").append(below(12) == 0 ? 9 : bits).append(gap()).append(';').append(gap());
        }
        if (below(3) == 0) {
            s.append("seed ").append(of("0", "7", "000000012", "999999999", "1000000000")).append(';');
        }
        if (below(3) == 0) {
            s.append("way ").append(of("queue", "stack", "least", "least", "apart", "queues")).append(";\n");
        }
        if (below(3) == 0) {
            s.append("spread ").append(of("apart", "close", "free", "free", "stack")).append(';');
        }
        int keys = below(6) == 0 ? 44 + below(8) : below(16);
        boolean bare = keys > 30 && below(2) == 0;
        for (int k = 0; k < keys; k++) {
            s.append("key").append(gap()).append(below(60) == 0 ? below(keys + 1) : k + below(2) * 100);
            if (!bare && below(3) != 0) {
                s.append(gap()).append("is ").append(below(40) == 0 ? 1 << bits : below(1 << bits));
            }
            s.append(bare ? "" : gap()).append(';');
        }
        s.append(gap());
        spoil(s);
        s.setLength(Math.min(s.length(), 600));
        return s.toString();
    }

    private String gap() {
        return of("", " ", " ", "\n", "  ");
    }

    private void spoil(StringBuilder s) {
        if (s.length() == 0 || below(2) == 0) {
            return;
        }
        int at = below(s.length());
        switch (below(4)) {
            case 0:
                s.deleteCharAt(at);
                break;
            case 1:
                s.insert(at, (char) of(';', ' ', '5', 'k', 'K', 0, 255, 9, 13, '-'));
                break;
            case 2:
                s.setCharAt(at, (char) of(';', ' ', '5', 'k', 'K', 0, 200, 9, 13, '{'));
                break;
            default:
                s.setLength(at);
                break;
        }
    }
}
