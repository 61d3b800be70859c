import java.lang.management.ManagementFactory;
import java.lang.reflect.Constructor;
import java.lang.reflect.Field;
import java.lang.reflect.Method;
import java.lang.reflect.Modifier;
import java.nio.charset.StandardCharsets;
import java.nio.file.Files;
import java.nio.file.Path;
import java.util.ArrayList;
import java.util.List;
import java.util.Set;
import java.util.TreeSet;
import java.util.regex.Matcher;
import java.util.regex.Pattern;

/** What of LANGUAGE.md can be seen in the program's text, its classes and what its calls make. */
public final class LanguageTest {
    private static final Set<String> FACE = Set.of(
            "int feed(int,int,int,int,int)", "boolean end(int)", "int duchy()", "int fault(int)", "int has(int)",
            "int letter(int,int)", "int house(int,int)", "int hate(int,int)", "int baker(int)", "int taste(int,int)",
            "int kept(int,int)", "int later(int,int,int)", "int cooled(int,int,int)", "int starves(int)",
            "int table(int)", "int wanting(int)", "int spared(int,int)", "int rest(int)", "int see()",
            "int flour(int,int)", "int tells(int,int)", "boolean feud(int,int,int)", "boolean bring(int,int)",
            "int days(int)", "int chance(int)", "boolean undo()", "boolean seed(int)", "long ask()", "int image()",
            "int octet(int)", "boolean on()", "int status(int)");
    private static final String FORBIDDEN = "throw|throws|try|catch|finally|synchronized|assert|native|volatile|float"
            + "|double|package|System\\.(?!arraycopy)\\w+|Thread|Object|hashCode|toString|new \\w+\\(\\)\\s*\\{|\\w+Exact"
            + "|protected|var|lambda|HashMap|Map|Random";
    private static int wrong;

    private static void fail(String what) {
        wrong++;
        System.out.println(what);
    }

    private static void must(boolean fine, String what) {
        if (!fine) {
            fail(what);
        }
    }

    private static String withoutCommentsAndTexts(String source) {
        return source.replaceAll("(?s)/\\*.*?\\*/", "").replaceAll("//[^\n]*", "")
                .replaceAll("\"(\\\\.|[^\"\\\\])*\"", "\"\"").replaceAll("'(\\\\.|[^'\\\\])'", "' '");
    }

    private static void lookAtText(Path file) throws Exception {
        byte[] bytes = Files.readAllBytes(file);
        for (byte b : bytes) {
            must(b > 0, "a sign beyond 127");
        }
        String source = withoutCommentsAndTexts(new String(bytes, StandardCharsets.US_ASCII));
        Matcher words = Pattern.compile("\\b(" + FORBIDDEN + ")\\b").matcher(source);
        while (words.find()) {
            fail("the text has " + words.group());
        }
        for (String sign : new String[] {"->", "::", "@", "+ \"", "\" +", "\"\"\""}) {
            must(!source.contains(sign), "the text has " + sign);
        }
        Matcher imports = Pattern.compile("import ([^;]+);").matcher(source);
        while (imports.find()) {
            must(imports.group(1).equals("java.util.Arrays"), "imports " + imports.group(1));
        }
        lookAtMethods(source);
    }

    private static void lookAtMethods(String source) {
        String[] lines = source.split("\n");
        int begin = -1;
        for (int i = 0; i < lines.length; i++) {
            boolean head = lines[i].matches("    (    )?[a-z].*\\)( \\{)?") && !lines[i].contains("=");
            if (head) {
                begin = i;
                must(lines[i].replaceAll("[^,]", "").length() < 7, "too many parameters: " + lines[i].trim());
            }
            if (begin >= 0 && lines[i].matches("    (    )?\\}")) {
                must(i - begin <= 60, "too long: " + lines[begin].trim());
                begin = -1;
            }
        }
    }

    private static String signature(Method m) {
        List<String> types = new ArrayList<>();
        for (Class<?> c : m.getParameterTypes()) {
            types.add(c.getSimpleName());
        }
        return m.getReturnType().getSimpleName() + " " + m.getName() + "(" + String.join(",", types) + ")";
    }

    private static void lookAtFace() {
        Set<String> open = new TreeSet<>();
        Set<String> names = new TreeSet<>();
        for (Method m : EnemyBread.class.getDeclaredMethods()) {
            if (Modifier.isPublic(m.getModifiers())) {
                open.add(signature(m));
                names.add(m.getName());
            } else {
                must(Modifier.isPrivate(m.getModifiers()), "not private: " + m.getName());
            }
        }
        must(open.equals(FACE), "the face is " + open);
        must(Modifier.isFinal(EnemyBread.class.getModifiers()), "the class is not final");
        Constructor<?>[] made = EnemyBread.class.getDeclaredConstructors();
        must(made.length == 1 && made[0].getParameterCount() == 0, "constructors");
        for (Field f : EnemyBread.class.getDeclaredFields()) {
            boolean constant = f.getName().equals("NONE") || f.getName().equals("NOTHING");
            must(Modifier.isPublic(f.getModifiers()) == constant, "a field's sight: " + f.getName());
            must(constant || Modifier.isPrivate(f.getModifiers()), "a field's sight: " + f.getName());
        }
        must(EnemyBread.class.getDeclaredClasses().length <= 12, "classes inside");
        for (Class<?> c : EnemyBread.class.getDeclaredClasses()) {
            must(Modifier.isStatic(c.getModifiers()), "not static: " + c);
            for (Method m : c.getDeclaredMethods()) {
                must(!names.contains(m.getName()), "bears a public name: " + m);
            }
            lookAtFields(c);
        }
        lookAtFields(EnemyBread.class);
    }

    private static void lookAtFields(Class<?> c) {
        int fields = 0;
        for (Field f : c.getDeclaredFields()) {
            if (Modifier.isStatic(f.getModifiers())) {
                must(Modifier.isFinal(f.getModifiers()), "static, not final: " + f);
                must(f.getType().isPrimitive() || f.getType() == String.class, "static type: " + f);
            } else {
                fields++;
            }
        }
        must(fields <= 20, fields + " fields in " + c);
    }

    private static void put(EnemyBread x, int[][] rows, int length) {
        for (int[] r : rows) {
            x.feed(r[0], r[1], r[2], r[3], r[4]);
        }
        x.end(length);
    }

    private static int[][] rows(String s) {
        int[][] rows = new int[(s.length() + 19) / 20][5];
        for (int i = 0; i < 20 * rows.length; i++) {
            int c = i < s.length() ? s.charAt(i) : 32;
            rows[i / 20][i % 20 / 4] = rows[i / 20][i % 20 / 4] << 8 | c;
        }
        return rows;
    }

    private static final String DUCHY = "loaf 5; house ash flour 20 salt 3; house bay flour 12 salt 1;"
            + "house cob flour 4 salt 7; feud ash with bay hate 30; feud bay with cob hate 10; bakes hate+flour;"
            + "tastes salt*10+hate/10+hunger; cools hate-loaves*4; grows 2-hunger; famine 50;";
    private static final int[][] DUCHY_ROWS = rows(DUCHY);
    private static final String QUESTION = "first hate 1 > 3 and not [tastes 0 < 2 or min(day,3)=4]";
    private static final int[][] QUESTION_ROWS = rows(QUESTION);

    private static long callAll(EnemyBread x) {
        put(x, DUCHY_ROWS, DUCHY.length());
        long sum = x.duchy() + x.fault(0) + x.has(5) + x.letter(0, 1) + x.house(1, 1) + x.hate(0, 1) + x.baker(0);
        sum += x.taste(0, 1) + x.later(0, 60, 0) + x.cooled(0, 1, 30) + x.starves(2) + x.table(0) + x.wanting(-1);
        sum += x.spared(20, -1) + x.rest(20) + x.flour(0, 0) + x.tells(0, 0);
        x.feed(0x000103ff, 0, 0, 0, 0);
        x.end(3);
        sum += x.see() + x.flour(0, 1) + x.tells(0, 2) + x.days(9) + x.chance(9) + x.kept(0, 3) + x.image() + x.octet(2);
        sum += x.feud(0, 2, 9) ? 1 : 0;
        sum += x.bring(0, 9) ? 1 : 0;
        sum += x.undo() ? 1 : 0;
        sum += x.seed(5) ? 1 : 0;
        sum += x.on() ? 1 : 0;
        put(x, QUESTION_ROWS, QUESTION.length());
        return sum + x.ask() + x.status(0);
    }

    private static void lookAtRoom() {
        com.sun.management.ThreadMXBean beans = (com.sun.management.ThreadMXBean) ManagementFactory.getThreadMXBean();
        EnemyBread x = new EnemyBread();
        long sum = callAll(x);
        long before = beans.getCurrentThreadAllocatedBytes();
        for (int i = 0; i < 50; i++) {
            sum += callAll(x);
        }
        long made = beans.getCurrentThreadAllocatedBytes() - before;
        must(made < 2000, "50 rounds of calls made " + made + " bytes of objects (" + sum + ")");
        before = beans.getCurrentThreadAllocatedBytes();
        new EnemyBread();
        made = beans.getCurrentThreadAllocatedBytes() - before;
        must(made < 120000, "an object makes " + made + " bytes");
        System.out.println("an object makes " + made + " bytes");
    }

    public static void main(String[] args) throws Exception {
        lookAtText(Path.of(args.length > 0 ? args[0] : ".", "src/main/java/EnemyBread.java"));
        lookAtFace();
        lookAtRoom();
        System.out.println(wrong == 0 ? "the program keeps to the language" : wrong + " things are not as the language asks");
        if (wrong != 0) {
            System.exit(1);
        }
    }
}
