import java.util.Random;

/** Runs of calls by chance: the program must answer as the naive model does. */
public final class ModelTest {
    private static final int RUNS = 1500;
    private static int wrong;
    private static final java.util.Map<String, Integer> asked = new java.util.TreeMap<>();
    private static final java.util.Map<String, Integer> told = new java.util.TreeMap<>();

    private final Random r;
    private final Texts texts;
    private final EnemyBread x = new EnemyBread();
    private final Model m = new Model();
    private final StringBuilder log = new StringBuilder();
    private int calls;
    private boolean bad;

    private ModelTest(long seed) {
        r = new Random(seed);
        texts = new Texts(r);
    }

    private long same(String call, long got, long want) {
        calls++;
        log.append(call).append(" -> ").append(want).append('\n');
        String name = call.substring(0, call.indexOf('('));
        asked.merge(name, 1, Integer::sum);
        if (want != -1 && want != Model.NOTHING) {
            told.merge(name, 1, Integer::sum);
        }
        if (got != want && !bad) {
            bad = true;
            wrong++;
            System.out.println(log + "answered " + got);
        }
        return got;
    }

    private long same(String call, boolean got, boolean want) {
        return same(call, got ? 1 : 0, want ? 1 : 0);
    }

    private void put(String s) {
        for (int i = 0; i < s.length(); i += 20) {
            int[] five = new int[5];
            for (int k = 0; k < 20; k++) {
                five[k / 4] = five[k / 4] << 8 | (i + k < s.length() ? s.charAt(i + k) & 255 : 32);
            }
            same("feed()", x.feed(five[0], five[1], five[2], five[3], five[4]), m.feed(five));
        }
        same("end(" + s.length() + ")", x.end(s.length()), m.end(s.length()));
        log.append("text: ").append(s).append('\n');
    }

    private void faults() {
        same("fault(0)", x.fault(0), m.fault(0));
        same("fault(1)", x.fault(1), m.fault(1));
    }

    private void duchy() {
        String s = r.nextInt(25) == 0 ? texts.deep("starves") : texts.duchy();
        put(r.nextInt(4) == 0 ? texts.spoilt(s) : s);
        same("duchy()", x.duchy(), m.duchy());
        faults();
    }

    private void ask() {
        String s = r.nextInt(8) == 0 ? texts.deep("question") : texts.question();
        put(r.nextInt(4) == 0 ? texts.spoilt(s) : s);
        same("ask()", x.ask(), m.ask());
        faults();
    }

    private void see() {
        StringBuilder b = new StringBuilder();
        int houses = Math.max(1, m.has(1));
        int rows = r.nextInt(20) == 0 ? r.nextInt(18) : 1 + r.nextInt(3);
        for (int i = 0; i < rows; i++) {
            int day = r.nextInt(3) == 0 ? r.nextInt(31) : r.nextInt(3);
            int house = r.nextInt(houses);
            // Mostly what is so in truth, so that numbers are left.
            int taste = r.nextInt(4) == 0 ? r.nextInt(102) : m.house(house, 1);
            if (day == 0 && m.baker(house) >= 0) {
                taste = m.taste(m.baker(house), house);
            }
            b.append((char) day).append((char) house).append((char) (r.nextInt(4) == 0 ? 255 : Math.max(0, taste)));
        }
        if (r.nextInt(15) == 0) {
            b.append((char) r.nextInt(40));
        }
        put(b.toString());
        same("see()", x.see(), m.see());
    }

    private void on() {
        int n = (int) same("image()", x.image(), m.image());
        StringBuilder b = new StringBuilder();
        for (int k = 0; k < n; k++) {
            b.append((char) same("octet(" + k + ")", x.octet(k), m.octet(k)));
        }
        int houses = m.has(1);
        if (r.nextInt(3) > 0 && houses > 0) {
            int k = 2 + r.nextInt(Math.max(1, n - 3));
            b.setCharAt(k, (char) r.nextInt(k < 2 + 3 * houses ? 11 : 101));
        }
        if (r.nextInt(4) == 0) {
            int day = r.nextInt(3) == 0 ? 990 + r.nextInt(12) : r.nextInt(1100);
            b.setCharAt(0, (char) (day / 256));
            b.setCharAt(1, (char) (day % 256));
        }
        int c = 233;
        for (int k = 0; k < n - 1; k++) {
            c = (3 * c + b.charAt(k)) % 251;
        }
        b.setCharAt(n - 1, (char) c);
        put(r.nextInt(8) == 0 ? texts.spoilt(b.toString()) : b.toString());
        same("on()", x.on(), m.on());
    }

    private int h() {
        return r.nextInt(12) == 0 ? r.nextInt(11) - 2 : r.nextInt(Math.max(1, m.has(1)));
    }

    private int n(int most) {
        return r.nextInt(10) == 0 ? r.nextInt(most + 3) - 1 : r.nextInt(Math.min(most, 12) + 1);
    }

    private void plain(int k) {
        int a = h();
        int b = h();
        int w = r.nextInt(11) - 1;
        int n = n(60);
        switch (k) {
            case 0: same("has(" + w + ")", x.has(w), m.has(w)); break;
            case 1: same("letter(" + a + "," + w + ")", x.letter(a, w), m.letter(a, w)); break;
            case 2: same("house(" + a + "," + w + ")", x.house(a, w), m.house(a, w)); break;
            case 3: same("hate(" + a + "," + b + ")", x.hate(a, b), m.hate(a, b)); break;
            case 4: same("baker(" + a + ")", x.baker(a), m.baker(a)); break;
            case 5: same("taste(" + a + "," + b + ")", x.taste(a, b), m.taste(a, b)); break;
            case 6: same("kept(" + w + "," + n % 5 + ")", x.kept(w, n % 5), m.kept(w, n % 5)); break;
            case 7: same("later(" + a + "," + n + "," + w % 4 + ")", x.later(a, n, w % 4), m.later(a, n, w % 4)); break;
            case 8: same("cooled(" + a + "," + b + "," + n + ")", x.cooled(a, b, n), m.cooled(a, b, n)); break;
            case 9: same("starves(" + a + ")", x.starves(a), m.starves(a)); break;
            case 10: same("status(" + w + ")", x.status(w), m.status(w)); break;
            default: same("octet(" + n + ")", x.octet(n), m.octet(n));
        }
    }

    private void sought(int k) {
        int a = h();
        int n = r.nextInt(15) == 0 ? r.nextInt(23) - 1 : 1 + r.nextInt(10);
        switch (k) {
            case 0:
                for (int w = -1; w < 10; w++) {
                    same("table(" + w + ")", x.table(w), m.table(w));
                }
                break;
            case 1:
                for (int w = -2; w < 4; w++) {
                    same("wanting(" + w + ")", x.wanting(w), m.wanting(w));
                }
                break;
            case 2:
                // More feuds take the model too long.
                for (int w = -2; w < 4 && (m.has(4) < 7 || m.has(4) > 10); w++) {
                    same("spared(" + n + "," + w + ")", x.spared(n, w), m.spared(n, w));
                }
                break;
            case 3: same("rest(" + n + ")", x.rest(n), m.rest(n)); break;
            case 4:
                for (int w = -1; w < 4; w++) {
                    same("flour(" + a + "," + w + ")", x.flour(a, w), m.flour(a, w));
                }
                break;
            default:
                for (int w = -1; w < 4; w++) {
                    same("tells(" + a + "," + w + ")", x.tells(a, w), m.tells(a, w));
                }
        }
    }

    private void act(int k) {
        int a = h();
        int b = h();
        int v = r.nextInt(3) == 0 ? r.nextInt(104) - 2 : r.nextInt(30);
        int n = r.nextInt(8) == 0 ? r.nextInt(104) - 1 : 1 + r.nextInt(5);
        switch (k) {
            case 0: same("feud(" + a + "," + b + "," + v + ")", x.feud(a, b, v), m.feud(a, b, v)); break;
            case 1: same("bring(" + a + "," + v + ")", x.bring(a, v), m.bring(a, v)); break;
            case 2: same("days(" + n + ")", x.days(n), m.days(n)); break;
            case 3: same("chance(" + n + ")", x.chance(n), m.chance(n)); break;
            case 4: same("undo()", x.undo(), m.undo()); break;
            default:
                int s = r.nextInt(4) == 0 ? -1 - r.nextInt(5) : r.nextInt() & 0x7fffffff;
                same("seed(" + s + ")", x.seed(s), m.seed(s));
        }
    }

    private void run() {
        if (r.nextInt(10) > 0) {
            duchy();
        }
        while (calls < 400 && !bad) {
            int k = r.nextInt(100);
            if (k < 45) {
                plain(r.nextInt(12));
            } else if (k < 51) {
                sought(r.nextInt(6));
            } else if (k < 80) {
                act(r.nextInt(6));
            } else if (k < 88) {
                ask();
            } else if (k < 93) {
                see();
            } else if (k < 96) {
                on();
            } else {
                duchy();
            }
        }
    }

    public static void main(String[] args) {
        int runs = args.length > 1 ? Integer.parseInt(args[1]) : RUNS;
        for (int i = 0; i < runs && wrong < 5; i++) {
            new ModelTest(1000 + i).run();
        }
        System.out.println("asked " + asked);
        System.out.println("told  " + told);
        System.out.println(wrong == 0 ? "the program answers as the model does" : wrong + " runs went wrong");
        if (wrong != 0) {
            System.exit(1);
        }
    }
}
