/** Boundary cases of promises 1 to 4: a new object, the tape, and what is a TEXT. */
public final class BoundsOfTextTest {
    private static final int NONE = TripleSieve.NONE;
    private static final int BLANKS = 0x20202020;

    public static void main(String[] args) {
        Sentences.runAll(BoundsOfTextTest.class);
    }

    // ---- promise 1

    @Sentence(promise = 1, says = "No KEYS")
    private static void noKeysYet() {
        TripleSieve x = new TripleSieve();
        Sentences.due("count(0)", x.count(0), 0);
        Sentences.due("key(0) throws", Sentences.keyThrows(x, 0), true);
        Sentences.due("worth(0)", x.worth(0), NONE);
        Sentences.due("gone(0)", x.gone(0), NONE);
        Sentences.due("turn(0, 0)", x.turn(0, 0), NONE);
        Sentences.due("peel(-1, 0)", x.peel(-1, 0), 0);
        Sentences.due("core(-1)", x.core(-1), 0);
        Sentences.due("twins()", x.twins(), 0);
    }

    @Sentence(promise = 1, says = "SETTINGS as if none were told")
    private static void settingsUntold() {
        TripleSieve x = new TripleSieve();
        int[] untold = {0, 16, 8, 4, 1, 0, 0};
        for (int what = 1; what <= 6; what++) {
            Sentences.due("count(" + what + ")", x.count(what), untold[what]);
        }
        Sentences.dueAlike("a new object and one told nothing", new TripleSieve(), Sentences.of(""));
    }

    @Sentence(promise = 1, says = "no SIEVE")
    private static void noSieveYet() {
        TripleSieve x = new TripleSieve();
        Sentences.due("count(10)", x.count(10), 0);
        for (int what = 0; what < 8; what++) {
            Sentences.due("built(" + what + ")", x.built(what), NONE);
        }
        Sentences.due("filled(0, false)", x.filled(0, false), NONE);
        Sentences.due("right()", x.right(), NONE);
        Sentences.due("shelf(0, false)", x.shelf(0, false), false);
    }

    @Sentence(promise = 1, says = "nothing on SHELVES")
    private static void shelvesEmptyYet() {
        TripleSieve x = new TripleSieve();
        x.build(1);
        for (int k = 0; k < 2; k++) {
            Sentences.due("shelf(" + k + ", true)", x.shelf(k, true), false);
            Sentences.due("unlike(" + k + ")", x.unlike(k), NONE);
        }
        Sentences.due("count(10)", x.count(10), 1);
    }

    @Sentence(promise = 1, says = "No KEYS, SETTINGS as if none were told, no SIEVE, nothing on SHELVES.")
    private static void newBesideAUsedOne() {
        TripleSieve used = Sentences.rich();
        TripleSieve x = new TripleSieve();
        used.set(1, 2);
        Sentences.dueAlike("a new object beside a used one", x, new TripleSieve());
    }

    // ---- promise 2

    @Sentence(promise = 2, says = "Twenty bytes come behind THE TAPE")
    private static void feedComesBehind() {
        TripleSieve x = new TripleSieve();
        Sentences.due("feed on nothing", x.feed(BLANKS, BLANKS, BLANKS, BLANKS, BLANKS), 20);
        Sentences.due("feed on 20", x.feed(BLANKS, BLANKS, BLANKS, BLANKS, BLANKS), 40);
        x.end(23);
        Sentences.due("feed on 23", x.feed(0x6B657920, 0x373B2020, BLANKS, BLANKS, 0x2020203F), 43);
        Sentences.due("text(): the last byte is at 42", x.text(), Sentences.fault(42, 1));
    }

    @Sentence(promise = 2, says = "of each number the highest first")
    private static void feedHighestFirst() {
        for (int at = 0; at < 20; at++) {
            int[] n = {BLANKS, BLANKS, BLANKS, BLANKS, BLANKS};
            n[at / 4] |= 0xFF << 24 - 8 * (at % 4);
            TripleSieve x = new TripleSieve();
            x.feed(n[0], n[1], n[2], n[3], n[4]);
            Sentences.due("text(), byte 255 at " + at, x.text(), Sentences.fault(at, 1));
        }
    }

    @Sentence(promise = 2, says = "NONE, and none come, if it would have more than 600.")
    private static void feedFull() {
        for (int length = 580; length <= 600; length++) {
            TripleSieve x = new TripleSieve();
            Bytes.put(padded("", 600), x);
            x.end(length);
            int want = length == 580 ? 600 : NONE;
            Sentences.due("feed at " + length, x.feed(-1, -1, -1, -1, -1), want);
            Sentences.due("count(8)", x.count(8), length == 580 ? 600 : length);
            Sentences.due("text()", x.text(), length == 580 ? Sentences.fault(580, 1) : 0);
        }
    }

    @Sentence(promise = 2, says = "NONE, and none come")
    private static void feedRefusedChangesNothing() {
        Sentences.dueNothing("a feed that is refused", () -> {
            TripleSieve x = Sentences.rich();
            x.end(0);
            Bytes.put(padded("key 9;", 600), x);
            return x;
        }, x -> x.feed(0, 0, 0, 0, 0));
    }

    @Sentence(promise = 2, says = "THE TAPE has 600 bytes")
    private static void tapeOf600() {
        TripleSieve x = new TripleSieve();
        for (int n = 20; n <= 600; n += 20) {
            Sentences.due("feed", x.feed(BLANKS, BLANKS, BLANKS, BLANKS, BLANKS), n);
        }
        Sentences.due("feed at 600", x.feed(BLANKS, BLANKS, BLANKS, BLANKS, BLANKS), NONE);
        Sentences.due("count(8)", x.count(8), 600);
        x.text();
        Sentences.due("feed behind text()", x.feed(BLANKS, BLANKS, BLANKS, BLANKS, BLANKS), 20);
    }

    // ---- promise 3

    @Sentence(promise = 3, says = "THE TAPE has its first n bytes alone: true")
    private static void endCuts() {
        for (int n = 0; n <= 20; n++) {
            TripleSieve x = new TripleSieve();
            x.feed(0x6B657920, 0x373B6B65, 0x7920383B, BLANKS, 0x2020203F);
            Sentences.due("end(" + n + ")", x.end(n), true);
            Sentences.due("count(8)", x.count(8), n);
            int whole = n >= 12 ? 2 : n >= 6 ? 1 : 0;
            boolean cut = n > 0 && n < 6 || n > 6 && n < 12;
            int want = n == 20 ? Sentences.fault(19, 1) : whole;
            if (!cut) {
                Sentences.due("text() of " + n, x.text(), want);
            }
        }
    }

    @Sentence(promise = 3, says = "its first n bytes alone")
    private static void endForgetsTheRest() {
        TripleSieve x = new TripleSieve();
        x.feed(-1, -1, -1, -1, -1);
        x.end(0);
        Sentences.due("end(1), the bytes are gone", x.end(1), false);
        x.feed(BLANKS, BLANKS, BLANKS, BLANKS, BLANKS);
        Sentences.due("text()", x.text(), 0);
    }

    @Sentence(promise = 3, says = "false, and nothing happens: it has not so many, n is below 0.")
    private static void endRefused() {
        TripleSieve x = new TripleSieve();
        Sentences.due("end(0) of nothing", x.end(0), true);
        Sentences.due("end(1) of nothing", x.end(1), false);
        Sentences.due("end(-1) of nothing", x.end(-1), false);
        Bytes.put(padded("", 600), x);
        Sentences.due("end(601) of 600", x.end(601), false);
        Sentences.due("end(600) of 600", x.end(600), true);
        Sentences.due("end(599) of 600", x.end(599), true);
        Sentences.due("end(600) of 599", x.end(600), false);
        for (int n : Sentences.FAR) {
            Sentences.due("end(" + n + ")", x.end(n), false);
        }
        Sentences.due("count(8)", x.count(8), 599);
    }

    @Sentence(promise = 3, says = "false, and nothing happens")
    private static void endRefusedChangesNothing() {
        for (int n : new int[] {21, -1, 601, Integer.MIN_VALUE, Integer.MAX_VALUE}) {
            Sentences.dueNothing("end(" + n + ")", Sentences::rich, x -> x.end(n));
        }
    }

    // ---- promise 4: what text() does

    @Sentence(promise = 4, says = "THE TAPE (it is empty then) is the TEXT from now on")
    private static void textEmptiesTheTape() {
        TripleSieve x = new TripleSieve();
        Bytes.put("key 7;", x);
        Sentences.due("text()", x.text(), 1);
        Sentences.due("count(8)", x.count(8), 0);
        Sentences.due("end(1)", x.end(1), false);
        Sentences.due("text() again, of nothing", x.text(), 0);
        Sentences.due("count(0)", x.count(0), 0);
        Bytes.put("key 7;?", x);
        Sentences.due("text() with a FAULT", x.text(), Sentences.fault(6, 1));
        Sentences.due("count(8) behind a FAULT", x.count(8), 0);
        Sentences.due("text() again, of nothing", x.text(), 0);
    }

    @Sentence(promise = 4, says = "is the TEXT from now on: how many KEYS")
    private static void textTakesTheOldAway() {
        TripleSieve x = Sentences.rich();
        x.end(0);
        Sentences.due("text() of nothing", x.text(), 0);
        Sentences.dueAlike("told nothing", x, new TripleSieve());
        x = Sentences.rich();
        x.end(0);
        Sentences.due("text() of one KEY", Sentences.tell(x, "key 12 is 3;"), 1);
        Sentences.dueAlike("told one KEY", x, Sentences.of("key 12 is 3;"));
    }

    @Sentence(promise = 4, says = "nothing can be UNDONE")
    private static void textForgetsActs() {
        TripleSieve x = new TripleSieve();
        for (int v = 1; v <= 15; v++) {
            x.set(1, v);
        }
        Sentences.due("text()", x.text(), 0);
        Sentences.due("count(7)", x.count(7), 0);
        Sentences.due("undo()", x.undo(), NONE);
        Sentences.due("count(1)", x.count(1), 16);
        x.set(1, 5);
        Sentences.due("undo() of the one behind text()", x.undo(), 0);
        Sentences.due("undo()", x.undo(), NONE);
        Sentences.due("count(1)", x.count(1), 16);
    }

    @Sentence(promise = 4, says = "there is no SIEVE")
    private static void textTakesTheSieve() {
        TripleSieve x = Sentences.rich();
        x.end(12);
        Sentences.due("count(10) ahead", x.count(10), 1);
        Sentences.due("text()", x.text(), 1);
        Sentences.due("count(10)", x.count(10), 0);
        Sentences.due("built(0)", x.built(0), NONE);
        Sentences.due("right()", x.right(), NONE);
    }

    @Sentence(promise = 4, says = "nothing on SHELVES")
    private static void textClearsShelves() {
        TripleSieve x = Sentences.rich();
        x.end(12);
        x.text();
        Sentences.due("shelf(0, true)", x.shelf(0, true), false);
        Sentences.due("shelf(1, true)", x.shelf(1, true), false);
        x.build(1);
        Sentences.due("unlike(0)", x.unlike(0), NONE);
        Sentences.due("unlike(1)", x.unlike(1), NONE);
    }

    @Sentence(promise = 4, says = "a FAULT (all else stays)")
    private static void faultLeavesAll() {
        String[] texts = {"?", "cells 9;prints 3;bits 2;seed 8;way stack;spread free;key 1;key 1;", "key 1;key 2",
            "cells 0;", Sentences.keys(49), "prints 2;key 3 is 16;"};
        for (String text : texts) {
            TripleSieve x = Sentences.rich();
            x.end(0);
            Sentences.due("text() of " + text + " has a FAULT", Sentences.tell(x, text) < -2, true);
            TripleSieve y = Sentences.rich();
            y.end(0);
            Sentences.dueAlike("behind text() of " + text, x, y);
        }
    }

    @Sentence(promise = 4, says = "-2 less (8 * place + kind)")
    private static void faultNumbers() {
        dueText("?", -2 - 1);
        dueText(" ?", -2 - 9);
        dueText("cells 0;", -2 - 51);
        dueText("key 1;key 1;", -2 - 82);
        dueText(padded("?", 600), -2 - (8 * 599 + 1));
        dueText(padded("key 1", 600), -2 - (8 * 600 + 1));
        dueText(padded(Sentences.keys(48) + "key", 600), -2 - (8 * 597 + 4));
    }

    // ---- promise 4: TOKENS

    @Sentence(promise = 4, says = "Blanks, 32, 10, part TOKENS and mean nothing else")
    private static void blanksPartTokens() {
        dueText("", 0);
        dueText(" ", 0);
        dueText("\n", 0);
        dueText(padded("", 600), 0);
        dueText("\n key\n\n7  is\n3 ;\n", 1);
        dueText("ke y 7;", Sentences.fault(0, 1));
        dueText("key 7 8;", Sentences.fault(6, 1));
        dueText("cells 1 6;", Sentences.fault(8, 1));
        TripleSieve x = Sentences.of("cells 3 ; key 1 ; key 2 is 4 ; ");
        Sentences.dueAlike("blanks or none", x, Sentences.of("cells3;key1;key2is4;"));
    }

    @Sentence(promise = 4, says = "1 the first byte that begins no TOKEN")
    private static void bytesThatAreNone() {
        for (int b = 0; b < 256; b++) {
            String sign = String.valueOf((char) b);
            boolean blank = b == 32 || b == 10;
            boolean digit = b >= '0' && b <= '9';
            dueText("key 7;" + sign, blank ? 1 : Sentences.fault(6, 1));
            dueText(sign + "key 7;", blank ? 1 : Sentences.fault(0, 1));
            boolean letter = b >= 'a' && b <= 'z';
            // behind the WORD it may be one letter more of it, or a digit of the NUMBER
            dueText("key" + sign + "7;", blank || digit ? 1 : Sentences.fault(letter ? 0 : 3, 1));
            // behind the NUMBER it may be one digit more of it
            dueText("key 7" + sign + ";", blank || digit ? 1 : Sentences.fault(b == ';' ? 6 : 5, 1));
        }
    }

    @Sentence(promise = 4, says = "WORDS (small letters, each that stand together; 1 to 6)")
    private static void wordsOfSix() {
        dueText("prints 3;spread free;key 1;", 1);
        dueText("k", Sentences.fault(0, 1));
        dueText("printsx 3;", Sentences.fault(0, 1));
        dueText("spreads free;", Sentences.fault(0, 1));
        dueText("key 1;keykeykey 2;", Sentences.fault(6, 1));
        dueText("key 1 isisisis 2;", Sentences.fault(6, 1));
        dueText("way queuequeue;", Sentences.fault(4, 1));
        dueText("way q;", Sentences.fault(4, 1));
        dueText("KEY 1;", Sentences.fault(0, 1));
        dueText("kEY 1;", Sentences.fault(0, 1));
    }

    @Sentence(promise = 4, says = "TOKEN with which no TEXT goes on")
    private static void wordsWithOneLetterOther() {
        String[] parts = {"cells 2;", "prints 3;", "bits 5;", "seed 7;", "way least;", "spread close;", "key 1;"};
        for (String part : parts) {
            int gap = part.indexOf(' ');
            for (int i = 0; i < gap; i++) {
                dueText(part.substring(0, i) + "x" + part.substring(i + 1), Sentences.fault(0, 1));
                dueText(part.substring(0, i) + part.substring(i + 1), Sentences.fault(0, 1));
            }
            dueText(part.substring(0, gap) + "a" + part.substring(gap), Sentences.fault(0, 1));
            dueText(part.substring(0, gap) + "z" + part.substring(gap), Sentences.fault(0, 1));
            // nothing is told
            dueText(part.substring(0, gap) + " ;", Sentences.fault(gap + 1, 1));
            dueText(part.substring(0, gap) + ";", Sentences.fault(gap, 1));
        }
        for (String word : new String[] {"queue", "stack", "least"}) {
            for (int i = 0; i < word.length(); i++) {
                dueText("way " + word.substring(0, i) + "x" + word.substring(i + 1) + ";", Sentences.fault(4, 1));
            }
        }
        for (String word : new String[] {"apart", "close", "free"}) {
            for (int i = 0; i < word.length(); i++) {
                dueText("spread " + word.substring(0, i) + "x" + word.substring(i + 1) + ";", Sentences.fault(7, 1));
            }
        }
        dueText("key 1 as 2;", Sentences.fault(6, 1));
        dueText("key 1 it 2;", Sentences.fault(6, 1));
        dueText("key 1 i 2;", Sentences.fault(6, 1));
        dueText("key 1 is ;", Sentences.fault(9, 1));
    }

    @Sentence(promise = 4, says = "NUMBERS (digits, likewise; 1 to 9)")
    private static void numbersOfNine() {
        dueText("key 0;", 1);
        dueText("key 9;", 1);
        Sentences.due("key(0)", Sentences.of("key 123456789;").key(0), 123456789);
        Sentences.due("key(0)", Sentences.of("key 999999999;").key(0), 999999999);
        Sentences.due("key(0)", Sentences.of("key 000000000;").key(0), 0);
        Sentences.due("key(0)", Sentences.of("key 000000012;").key(0), 12);
        dueText("key 1000000000;", Sentences.fault(4, 1));
        dueText("key 0000000000;", Sentences.fault(4, 1));
        dueText("key 99999999999999999999;", Sentences.fault(4, 1));
        dueText("seed 0000000001;", Sentences.fault(5, 1));
        dueText("key 1 is 0000000001;", Sentences.fault(9, 1));
        dueText("seed 000000001;key 1 is 000000001;", 1);
        dueText("key -1;", Sentences.fault(4, 1));
        dueText("key +1;", Sentences.fault(4, 1));
    }

    @Sentence(promise = 4, says = "; alone (longer ones, all else are no TOKENS)")
    private static void stopsAlone() {
        dueText(";", Sentences.fault(0, 1));
        dueText("key 1;;", Sentences.fault(6, 1));
        dueText("key 1; ;", Sentences.fault(7, 1));
        dueText("key;", Sentences.fault(3, 1));
        dueText("cells 3;;key 1;", Sentences.fault(8, 1));
        dueText("key 1,", Sentences.fault(5, 1));
        dueText("key 1:", Sentences.fault(5, 1));
        dueText("key 1.", Sentences.fault(5, 1));
    }

    // ---- promise 4: TEXT

    @Sentence(promise = 4, says = "[ cells NUMBER ; ]")
    private static void eachPartMayLack() {
        String[] parts = {"cells 2;", "prints 3;", "bits 5;", "seed 7;", "way least;", "spread close;", "key 1 is 9;key 2;"};
        int[] untold = {0, 16, 8, 4, 1, 0, 0};
        int[] told = {2, 2, 3, 5, 7, 2, 1};
        for (int which = 0; which < 128; which++) {
            StringBuilder s = new StringBuilder();
            for (int i = 0; i < 7; i++) {
                s.append((which >> i & 1) == 1 ? parts[i] : "");
            }
            TripleSieve x = new TripleSieve();
            Sentences.due("text() of " + s, Sentences.tell(x, s.toString()), (which >> 6 & 1) == 1 ? 2 : 0);
            for (int what = 1; what <= 6; what++) {
                Sentences.due("count(" + what + ") of " + s, x.count(what),
                    (which >> what - 1 & 1) == 1 ? told[what] : untold[what]);
            }
        }
    }

    @Sentence(promise = 4, says = "TOKEN with which no TEXT goes on (its first byte")
    private static void partsOutOfOrder() {
        String[] parts = {"cells 2;", "prints 3;", "bits 5;", "seed 7;", "way least;", "spread close;", "key 1 is 9;"};
        for (int i = 0; i < 7; i++) {
            for (int j = 0; j < 7; j++) {
                String text = parts[i] + parts[j];
                if (j < i || j == i && i < 6) {
                    dueText(text, Sentences.fault(parts[i].length(), 1));
                } else if (j > i) {
                    dueText(text, j == 6 ? 1 : 0);
                }
            }
        }
        dueText("key 1;key 2;cells 3;", Sentences.fault(12, 1));
    }

    @Sentence(promise = 4, says = "the end: how many bytes there are")
    private static void textThatEndsTooSoon() {
        String[] whole = {"cells 2;", "prints 3;", "bits 5;", "seed 7;", "way least;", "spread close;", "key 1 is 9;"};
        for (String part : whole) {
            int stop = part.length() - 1;
            dueText(part.substring(0, stop), Sentences.fault(stop, 1));
            dueText(part.substring(0, stop) + " \n", Sentences.fault(stop + 2, 1));
            int gap = part.indexOf(' ');
            dueText(part.substring(0, gap), Sentences.fault(gap, 1));
            dueText(part.substring(0, gap) + "  ", Sentences.fault(gap + 2, 1));
        }
        dueText("key 1 is", Sentences.fault(8, 1));
        dueText("key 1 is ", Sentences.fault(9, 1));
        dueText("key 1", Sentences.fault(5, 1));
        dueText(padded("key", 600), Sentences.fault(600, 1));
    }

    @Sentence(promise = 4, says = "CELLS of a BLOCK (1 to 32; 16 if it is not told)")
    private static void cellsTold() {
        dueSetting("cells ", 1, 1, 32, 16);
    }

    @Sentence(promise = 4, says = "PRINTS (bits of a PRINT, 1 to 16; 8)")
    private static void printsTold() {
        dueSetting("prints ", 2, 1, 16, 8);
    }

    @Sentence(promise = 4, says = "BITS (of a VALUE, 0 to 8; 4)")
    private static void bitsTold() {
        dueSetting("bits ", 3, 0, 8, 4);
    }

    @Sentence(promise = 4, says = "SEED (0 to 999,999,999; 1)")
    private static void seedTold() {
        Sentences.due("count(4)", Sentences.of("").count(4), 1);
        Sentences.due("count(4)", Sentences.of("seed 0;").count(4), 0);
        Sentences.due("count(4)", Sentences.of("seed 999999999;").count(4), 999999999);
        dueText("seed 1000000000;", Sentences.fault(5, 1));
    }

    @Sentence(promise = 4, says = "WAY (queue 0, stack 1, least 2; 0)")
    private static void wayTold() {
        dueChoice("way ", 5, "queue", "stack", "least");
        for (String word : new String[] {"apart", "close", "free", "key", "way", "queu", "stac", "leas", "leasts"}) {
            dueText("way " + word + ";", Sentences.fault(4, 1));
        }
        dueText("way 0;", Sentences.fault(4, 1));
    }

    @Sentence(promise = 4, says = "SPREAD (apart 0, close 1, free 2; 0)")
    private static void spreadTold() {
        dueChoice("spread ", 6, "apart", "close", "free");
        for (String word : new String[] {"queue", "stack", "least", "key", "spread", "apar", "clos", "fre", "frees"}) {
            dueText("spread " + word + ";", Sentences.fault(7, 1));
        }
        dueText("spread 2;", Sentences.fault(7, 1));
    }

    @Sentence(promise = 4, says = "KEYS (48 at most, numbered as told)")
    private static void keysTold() {
        TripleSieve x = new TripleSieve();
        StringBuilder s = new StringBuilder();
        for (int k = 0; k < 48; k++) {
            s.append("key ").append(100 - k).append(';');
        }
        Sentences.due("text() of 48", Sentences.tell(x, s.toString()), 48);
        for (int k = 0; k < 48; k++) {
            Sentences.due("key(" + k + ")", x.key(k), 100 - k);
        }
        Sentences.due("key(48) throws", Sentences.keyThrows(x, 48), true);
        Sentences.due("text() of 47", Sentences.tell(x, Sentences.keys(47)), 47);
        dueText(s + "key 7;", Sentences.fault(s.length(), 4));
    }

    @Sentence(promise = 4, says = "VALUES (below 2 to the BITS; 0 without)")
    private static void valuesTold() {
        for (int bits = 0; bits <= 8; bits++) {
            String text = "bits " + bits + ";key 1;key 2 is " + ((1 << bits) - 1) + ";key 3 is 0;";
            TripleSieve x = Sentences.of(text);
            Sentences.due("worth(0) without", x.worth(0), 0);
            Sentences.due("worth(1)", x.worth(1), (1 << bits) - 1);
            Sentences.due("worth(2)", x.worth(2), 0);
            dueText("bits " + bits + ";key 1 is " + (1 << bits) + ";", Sentences.fault(16, 3));
        }
        Sentences.due("worth(0) without BITS told", Sentences.of("key 1 is 15;").worth(0), 15);
        dueText("key 1 is 16;", Sentences.fault(9, 3));
        dueText("key 1 is 999999999;", Sentences.fault(9, 3));
        TripleSieve x = Sentences.of("key 1 is 15;key 2;");
        Sentences.due("worth(1) without, behind one that has it", x.worth(1), 0);
    }

    // ---- promise 4: FAULTS

    @Sentence(promise = 4, says = "FAULTS, the one whose place is least")
    private static void leastPlace() {
        dueText("cells 0;prints 0;", Sentences.fault(6, 3));
        dueText("prints 0;cells 2;", Sentences.fault(7, 3));
        dueText("cells 0;?", Sentences.fault(6, 3));
        dueText("? cells 0;", Sentences.fault(0, 1));
        dueText("cells 0?", Sentences.fault(6, 3));
        dueText("cells 0", Sentences.fault(6, 3));
        dueText("key 1;key 1;key 2 is 99;", Sentences.fault(10, 2));
        dueText("key 1;key 1 is 99;", Sentences.fault(10, 2));
        dueText("key 1;key 2 is 99;key 1;", Sentences.fault(15, 3));
        dueText("key 1;key 1", Sentences.fault(10, 2));
        dueText("key 1;key 1?", Sentences.fault(10, 2));
        dueText("key 1;key 2 is 99 99;", Sentences.fault(15, 3));
        dueText("key 1;key 2 2;key 1;", Sentences.fault(12, 1));
        String full = Sentences.keys(48);
        dueText(full + "key 1;", Sentences.fault(full.length(), 4));
        dueText(full + "key key", Sentences.fault(full.length(), 4));
        dueText(full + "key", Sentences.fault(full.length(), 4));
        dueText(full + "? key 99;", Sentences.fault(full.length(), 1));
        dueText(Sentences.keys(47) + "key 1;key 99;", Sentences.fault(Sentences.keys(47).length() + 4, 2));
    }

    @Sentence(promise = 4, says = "2 a KEY that is told already (the NUMBER)")
    private static void toldAlready() {
        dueText("key 7;key 7;", Sentences.fault(10, 2));
        dueText("key 7 is 1;key 7 is 2;", Sentences.fault(15, 2));
        dueText("key 0;key 000000000;", Sentences.fault(10, 2));
        dueText("key 7;key 8;\nkey\n 007;", Sentences.fault(18, 2));
        dueText("key 7;key 77;key 777;", 3);
        dueText("key 7 is 7;key 8 is 7;", 2);
        TripleSieve x = Sentences.of("key 7;");
        Sentences.due("text() that tells it for the first time", Sentences.tell(x, "key 7;"), 1);
    }

    @Sentence(promise = 4, says = "3 a NUMBER that can't be")
    private static void cantBe() {
        dueText("cells 999999999;", Sentences.fault(6, 3));
        dueText("prints 000000017;", Sentences.fault(7, 3));
        dueText("cells 000000032;prints 000000016;bits 000000008;", 0);
        dueText("bits 0;key 1 is 0;", 1);
        dueText("bits 0;key 1 is 1;", Sentences.fault(16, 3));
        dueText("bits 9;", Sentences.fault(5, 3));
    }

    @Sentence(promise = 4, says = "4 the WORD key of one too many")
    private static void oneTooMany() {
        String full = Sentences.keys(48);
        dueText(full, 48);
        dueText(full + " \n", 48);
        dueText(full + "key 48;", Sentences.fault(full.length(), 4));
        dueText(full + " \nkey 48;", Sentences.fault(full.length() + 2, 4));
        dueText(Sentences.keys(60), Sentences.fault(full.length(), 4));
        dueText(full + "keys 48;", Sentences.fault(full.length(), 1));
        dueText(full + "is 48;", Sentences.fault(full.length(), 1));
    }

    // ---- what these tests need

    /** The text with blanks ahead of it, so that there are n bytes. */
    private static String padded(String text, int n) {
        StringBuilder s = new StringBuilder();
        while (s.length() + text.length() < n) {
            s.append(s.length() % 2 == 0 ? ' ' : '\n');
        }
        return s.append(text).toString();
    }

    private static void dueText(String text, int want) {
        Sentences.due("text() of " + text, Sentences.tell(new TripleSieve(), text), want);
    }

    private static void dueSetting(String word, int what, int least, int most, int untold) {
        Sentences.due("count(" + what + ") untold", Sentences.of("").count(what), untold);
        for (int v = 0; v <= most + 2; v++) {
            TripleSieve x = new TripleSieve();
            boolean good = v >= least && v <= most;
            Sentences.due("text() of " + word + v, Sentences.tell(x, word + v + ";"),
                good ? 0 : Sentences.fault(word.length(), 3));
            Sentences.due("count(" + what + ")", x.count(what), good ? v : untold);
        }
    }

    private static void dueChoice(String word, int what, String... choices) {
        Sentences.due("count(" + what + ") untold", Sentences.of("").count(what), 0);
        for (int v = 0; v < choices.length; v++) {
            Sentences.due("count(" + what + ") of " + choices[v],
                Sentences.of(word + choices[v] + ";").count(what), v);
        }
    }
}
