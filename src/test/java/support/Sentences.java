import java.lang.reflect.InvocationTargetException;
import java.lang.reflect.Method;
import java.util.ArrayList;
import java.util.Comparator;
import java.util.List;
import java.util.NoSuchElementException;
import java.util.function.Consumer;
import java.util.function.Supplier;

/** Runs the tests of sentences, each by itself, and tells which sentence does not hold. */
final class Sentences {
    static final int NONE = TripleSieve.NONE;
    /** Numbers that no call takes as which, how many or how far. */
    static final int[] FAR = {Integer.MIN_VALUE, Integer.MIN_VALUE + 1, -1000, 5000, Integer.MAX_VALUE - 1,
        Integer.MAX_VALUE};

    private static int asked = 0;
    private static int wrong = 0;
    private static String told = "";

    /** Runs all of a class, and ends with 1 if one does not hold. */
    static void runAll(Class<?> tests) {
        List<Method> all = of(tests);
        for (Method m : all) {
            run(m);
        }
        System.out.println(all.size() + " sentences, " + asked + " answers, " + wrong + " not as due");
        if (wrong != 0 || all.isEmpty()) {
            System.exit(1);
        }
    }

    /** By promises, and of one promise by names. */
    static List<Method> of(Class<?> tests) {
        List<Method> all = new ArrayList<>();
        for (Method m : tests.getDeclaredMethods()) {
            if (m.isAnnotationPresent(Sentence.class)) {
                all.add(m);
            }
        }
        all.sort(Comparator.<Method>comparingInt(m -> m.getAnnotation(Sentence.class).promise())
            .thenComparing(Method::getName));
        return all;
    }

    private static void run(Method m) {
        Sentence s = m.getAnnotation(Sentence.class);
        told = "promise " + s.promise() + " (" + m.getName() + "), \"" + s.says() + "\": ";
        int before = asked;
        try {
            m.setAccessible(true);
            m.invoke(null);
        } catch (InvocationTargetException e) {
            fail("threw " + e.getCause());
        } catch (IllegalAccessException e) {
            fail("can't be run: " + e);
        }
        if (asked == before) {
            fail("asks nothing");
        }
    }

    private static void fail(String what) {
        wrong++;
        System.out.println(told + what);
    }

    static void due(String call, long got, long want) {
        asked++;
        if (got != want) {
            fail(call + " answered " + got + ", due is " + want);
        }
    }

    static void due(String call, boolean got, boolean want) {
        asked++;
        if (got != want) {
            fail(call + " answered " + got + ", due is " + want);
        }
    }

    static void dueRow(String call, long[] got, long... want) {
        due(call + ": how many", got.length, want.length);
        for (int i = 0; i < got.length && i < want.length; i++) {
            due(call + " at " + i, got[i], want[i]);
        }
    }

    /** Two objects are not to be told apart by what can be asked; both are used up by it. */
    static void dueAlike(String what, TripleSieve x, TripleSieve y) {
        asked++;
        String one = Seen.all(x);
        String other = Seen.all(y);
        if (!one.equals(other)) {
            fail(what + ", seen is\n  " + one + "\n  due is\n  " + other);
        }
    }

    /** Behind the call the object is as one on which it was never made. */
    static void dueNothing(String call, Supplier<TripleSieve> made, Consumer<TripleSieve> refused) {
        TripleSieve x = made.get();
        refused.accept(x);
        dueAlike("behind " + call, x, made.get());
    }

    static boolean keyThrows(TripleSieve x, int k) {
        try {
            x.key(k);
            return false;
        } catch (NoSuchElementException e) {
            return true;
        }
    }

    static int tell(TripleSieve x, String text) {
        Bytes.put(text, x);
        return x.text();
    }

    /** A new object that was told this text, which has no fault. */
    static TripleSieve of(String text) {
        TripleSieve x = new TripleSieve();
        int keys = tell(x, text);
        if (keys < 0) {
            fail("text() of " + text + " answered " + keys);
        }
        return x;
    }

    static int fault(int place, int kind) {
        return -2 - (8 * place + kind);
    }

    /** "key 0;key 1;" and so on. */
    static String keys(int n) {
        StringBuilder s = new StringBuilder();
        for (int k = 0; k < n; k++) {
            s.append("key ").append(k).append(';');
        }
        return s.toString();
    }

    /** With acts, a sieve, one sieve on each shelf and bytes on the tape, so that all could be spoilt. */
    static TripleSieve rich() {
        TripleSieve x = of("cells 3;prints 4;seed 11;key 5 is 9;key 6 is 1;key 7 is 15;");
        x.build(1);
        x.shelf(0, false);
        x.add(8, 8);
        x.set(5, 2);
        x.build(1);
        x.shelf(1, false);
        x.turn(1, 3);
        x.gone(7);
        x.build(9);
        x.feed(0x6B657920, 0x31322069, 0x7320333B, 0x6B657920, 0x31333B20);
        return x;
    }

    private Sentences() {
    }
}
