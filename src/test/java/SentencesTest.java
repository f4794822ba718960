import java.io.IOException;
import java.lang.reflect.Method;
import java.nio.file.Files;
import java.nio.file.Path;
import java.util.TreeMap;

/** Each promise has tests of its boundary cases, and the words that they bear are the document's. */
public final class SentencesTest {
    private static final Class<?>[] BOUNDS = {BoundsOfTextTest.class, BoundsOfKeysTest.class, BoundsOfCellsTest.class,
        BoundsOfPeelingTest.class, BoundsOfSieveTest.class, BoundsOfAllTest.class};
    private static final int PROMISES = 34;

    public static void main(String[] args) throws IOException {
        String document = evened(Files.readString(Path.of("../shared/DOC.md")));
        TreeMap<Integer, Integer> tests = new TreeMap<>();
        int wrong = 0;
        for (Class<?> c : BOUNDS) {
            for (Method m : Sentences.of(c)) {
                Sentence s = m.getAnnotation(Sentence.class);
                tests.merge(s.promise(), 1, Integer::sum);
                if (!document.contains(evened(s.says()))) {
                    wrong++;
                    System.out.println(m.getName() + ": the document does not say \"" + s.says() + "\"");
                }
            }
        }
        for (int promise = 1; promise <= PROMISES; promise++) {
            if (!tests.containsKey(promise)) {
                wrong++;
                System.out.println("promise " + promise + " has no test of a boundary case");
            }
        }
        System.out.println("tests of boundary cases by promise: " + tests);
        if (wrong != 0) {
            System.exit(1);
        }
    }

    private static String evened(String text) {
        return text.replaceAll("\\s+", " ");
    }
}
