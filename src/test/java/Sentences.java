import java.lang.reflect.InvocationTargetException;
import java.lang.reflect.Method;
import java.nio.charset.StandardCharsets;
import java.nio.file.Files;
import java.nio.file.Path;
import java.util.LinkedHashMap;
import java.util.Map;
import java.util.Set;
import java.util.TreeSet;

/** Runs tests that each hold the program to one sentence of the document; the sentence must stand there. */
class Sentences extends Calls {
    private static String about;
    private static boolean bad;

    /** The document by its headings, its terms by their numbers. */
    static Map<String, String> parts(String[] args) throws Exception {
        Path document = Path.of(args.length > 0 ? args[0] : ".", "../shared/DOC.md");
        Map<String, String> parts = new LinkedHashMap<>();
        String part = "";
        for (String line : Files.readAllLines(document, StandardCharsets.UTF_8)) {
            if (line.startsWith("## ")) {
                part = line.substring(3).replaceAll(":.*", "");
                continue;
            }
            if (line.matches("(I|II|III|IV)\\. .*")) {
                part = line.substring(0, line.indexOf('.'));
            } else if (line.startsWith("The constants:")) {
                part = "The constants";
            }
            parts.merge(part, line, (a, b) -> a + " " + b);
        }
        return parts;
    }

    /** Runs all tests of a class; each of the named parts must have one. */
    static void run(Class<?> tests, String[] args, String... named) throws Exception {
        Map<String, String> parts = parts(args);
        Set<String> met = new TreeSet<>();
        int count = 0;
        int wrong = 0;
        for (Method test : tests.getDeclaredMethods()) {
            Says says = test.getAnnotation(Says.class);
            if (says == null) {
                continue;
            }
            about = says.in() + ", \"" + says.text() + "\"";
            bad = false;
            must("the sentence stands in the document", parts.getOrDefault(says.in(), "").contains(says.text()));
            must("the sentence has no other test", met.add(about));
            met.add(says.in());
            call(test);
            count++;
            wrong += bad ? 1 : 0;
        }
        about = tests.getName();
        for (String part : named) {
            wrong += met.contains(part) ? 0 : 1;
            must("there is a test of " + part, met.contains(part));
        }
        System.out.println(count + " sentences of the document, " + wrong + " not held");
        if (wrong != 0 || count == 0) {
            System.exit(1);
        }
    }

    private static void call(Method test) throws Exception {
        try {
            test.setAccessible(true);
            test.invoke(null);
        } catch (InvocationTargetException e) {
            must("no call throws " + e.getCause(), false);
        }
    }

    static void must(String what, boolean fine) {
        if (!fine) {
            bad = true;
            System.out.println(about + ": not so: " + what);
        }
    }

    static void due(String call, long got, long want) {
        if (got != want) {
            bad = true;
            System.out.println(about + ": " + call + " answered " + got + ", due is " + want);
        }
    }

    static void due(String call, boolean got, boolean want) {
        due(call, got ? 1 : 0, want ? 1 : 0);
    }

    static EnemyBread of(String s) {
        EnemyBread e = put(new EnemyBread(), s);
        int statements = e.duchy();
        must("duchy() of " + s + ", fault " + e.fault(0) + " at " + e.fault(1), statements > 0);
        return e;
    }

    /** A duchy, and then an image of it. */
    static EnemyBread at(String s, int day, int[] houses, int... hates) {
        EnemyBread e = of(s);
        due("on()", put(e, image(day, houses, hates)).on(), true);
        return e;
    }

    static void fine(String s, int statements) {
        EnemyBread e = put(new EnemyBread(), s);
        due("duchy() of " + s, e.duchy(), statements);
        due("fault(0) of " + s, e.fault(0), 0);
        due("fault(1) of " + s, e.fault(1), NONE);
    }

    /** The fault's place is marked by ^ ahead of it. */
    static void faulty(String marked, int kind) {
        String s = marked.replace("^", "");
        EnemyBread e = put(new EnemyBread(), s);
        due("duchy() of " + s, e.duchy(), NONE);
        due("fault(0) of " + s, e.fault(0), kind);
        due("fault(1) of " + s, e.fault(1), marked.indexOf('^'));
    }

    static void asks(EnemyBread e, String s, long answer) {
        due("ask() of " + s, put(e, s).ask(), answer);
        due("fault(0) of " + s, e.fault(0), 0);
        due("fault(1) of " + s, e.fault(1), NONE);
    }

    static void asksFaulty(String marked, int kind) {
        String s = marked.replace("^", "");
        EnemyBread e = of(houses(3) + "feud a with b hate 4;");
        due("ask() of " + s, put(e, s).ask(), NOTHING);
        due("fault(0) of " + s, e.fault(0), kind);
        due("fault(1) of " + s, e.fault(1), marked.indexOf('^'));
    }

    /** A loaf of 5, and houses a, b, c .. with 20 of flour and salt 1, 2, 3 .. */
    static String houses(int n) {
        StringBuilder b = new StringBuilder("loaf 5;");
        for (int i = 0; i < n; i++) {
            b.append("house ").append((char) ('a' + i)).append(" flour 20 salt ").append(i + 1).append(";");
        }
        return b.toString();
    }

    /** How a loaf of b would taste for a by a sum. */
    static void tastes(String sum, int taste) {
        due("tastes " + sum, of(houses(2) + "feud a with b hate 4;tastes " + sum + ";").taste(1, 0), taste);
    }
}
