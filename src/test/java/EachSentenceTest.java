import java.lang.reflect.Method;
import java.util.ArrayList;
import java.util.Comparator;
import java.util.List;
import java.util.Map;

/** No sentence of the terms and promises may be without a test that names it. */
public final class EachSentenceTest {
    private static final Class<?>[] TESTS = {TextBoundaryTest.class, DaysBoundaryTest.class, SearchBoundaryTest.class,
        PromiseBoundaryTest.class};
    /** Words that only lead on to the next sentence. */
    private static final String[] LEADING = {"(The DAY; of the HOUSE,", "; of the feud its hate;", "A DAY:", "```text"};

    private static List<Says> named(String part) {
        List<Says> named = new ArrayList<>();
        for (Class<?> tests : TESTS) {
            for (Method test : tests.getDeclaredMethods()) {
                Says says = test.getAnnotation(Says.class);
                if (says != null && says.in().equals(part)) {
                    named.add(says);
                }
            }
        }
        // A long one goes first, as a short one may stand in it.
        named.sort(Comparator.comparingInt((Says says) -> -says.text().length()));
        return named;
    }

    private static String withoutTest(String part, String text) {
        String left = text.replaceAll("^(I|II|III|IV)\\. ", "").replaceAll("^ *`[^`]*`: ", "");
        for (Says says : named(part)) {
            left = left.replace(says.text(), " ");
        }
        for (String words : LEADING) {
            left = left.replace(words, " ");
        }
        return left.replaceAll("[^A-Za-z0-9]+", " ").trim();
    }

    public static void main(String[] args) throws Exception {
        int looked = 0;
        int wrong = 0;
        for (Map.Entry<String, String> part : Sentences.parts(args).entrySet()) {
            if (!part.getKey().matches("I|II|III|IV|Promise [0-9]+")) {
                continue;
            }
            looked++;
            String left = withoutTest(part.getKey(), part.getValue());
            if (!left.isEmpty()) {
                wrong++;
                System.out.println(part.getKey() + ": no test names \"" + left + "\"");
            }
        }
        System.out.println(looked + " parts of the document, " + wrong + " with sentences that no test names");
        if (wrong != 0 || looked != 37) {
            System.exit(1);
        }
    }
}
