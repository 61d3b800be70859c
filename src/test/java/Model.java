import java.util.ArrayDeque;
import java.util.ArrayList;
import java.util.Deque;
import java.util.HashSet;
import java.util.LinkedHashMap;
import java.util.List;
import java.util.Map;
import java.util.Set;
import java.util.TreeMap;

/** The document once more, in its most naive form: trees for sums, all rows and all sets tried, nothing remembered. */
final class Model {

    static final int NONE = -1;
    static final long NOTHING = -1000000000000000L;

    static final Set<String> OWN_WORDS = Set.of("loaf", "house", "flour", "salt", "feud", "with", "hate", "bakes",
            "tastes", "starves", "cools", "grows", "famine", "day", "hunger", "loaves", "number", "feuds", "or", "and",
            "not", "all", "min", "max");

    interface Tree {
        long in(Map<String, Long> facts, Lookup lookup);
    }

    interface Lookup {
        long of(String word, long number);
    }

    static final class Fault extends RuntimeException {
        private static final long serialVersionUID = 1L;
        final int kind;
        final int place;

        Fault(int kind, int place) {
            this.kind = kind;
            this.place = place;
        }
    }

    static final class House {
        String name;
        int flour;
        int salt;
        int hunger;
        boolean there = true;

        House copy() {
            House h = new House();
            h.name = name;
            h.flour = flour;
            h.salt = salt;
            h.hunger = hunger;
            h.there = there;
            return h;
        }
    }

    record Loaf(int day, int baker, int eater, int taste) { }

    /** Feuds by "less,other". */
    static final class World {
        int day;
        List<House> houses = new ArrayList<>();
        Map<String, Integer> feuds = new TreeMap<>();
        List<Loaf> loaves = new ArrayList<>();

        World copy() {
            World w = new World();
            w.day = day;
            for (House h : houses) {
                w.houses.add(h.copy());
            }
            w.feuds.putAll(feuds);
            w.loaves.addAll(loaves);
            return w;
        }

        int hate(int a, int b) {
            return feuds.getOrDefault(Math.min(a, b) + "," + Math.max(a, b), 0);
        }

        void hate(int a, int b, int hate) {
            String key = Math.min(a, b) + "," + Math.max(a, b);
            if (hate == 0) {
                feuds.remove(key);
            } else {
                feuds.put(key, hate);
            }
        }
    }

    static final class Laws {
        int loaf;
        int famine;
        int statements;
        World first = new World();
        Map<String, Tree> told = new LinkedHashMap<>();
    }

    // ---- reading

    static final class Text {
        final String s;
        int at;
        int open;
        String context;

        Text(String s) {
            this.s = s;
        }

        void blanks() {
            while (at < s.length() && (s.charAt(at) == 10 || s.charAt(at) == 32)) {
                at++;
            }
        }

        static boolean letter(char c) {
            return c >= 'a' && c <= 'z';
        }

        static boolean digit(char c) {
            return c >= '0' && c <= '9';
        }

        boolean glued() {
            return at > 0 && at < s.length()
                    && (letter(s.charAt(at - 1)) && digit(s.charAt(at)) || digit(s.charAt(at - 1)) && letter(s.charAt(at)));
        }

        /** The word that stands here, "" without one; nothing is taken. */
        String word() {
            blanks();
            if (glued()) {
                return "";
            }
            int e = at;
            while (e < s.length() && letter(s.charAt(e))) {
                e++;
            }
            return s.substring(at, e);
        }

        String digits() {
            blanks();
            if (glued()) {
                return "";
            }
            int e = at;
            while (e < s.length() && digit(s.charAt(e))) {
                e++;
            }
            return s.substring(at, e);
        }

        char sign() {
            blanks();
            if (at >= s.length()) {
                return 0;
            }
            char c = s.charAt(at);
            return letter(c) || digit(c) ? 0 : c;
        }

        boolean ended() {
            blanks();
            return at >= s.length();
        }

        Fault wrong() {
            blanks();
            return new Fault(1, at);
        }

        void must(String word) {
            if (!word().equals(word)) {
                throw wrong();
            }
            at += word.length();
        }

        void must(char c) {
            if (sign() != c) {
                throw wrong();
            }
            at++;
        }

        int number(int least, int most) {
            String d = digits();
            if (d.isEmpty()) {
                throw wrong();
            }
            if (d.length() > 4) {
                throw new Fault(1, at + 4);
            }
            int n = Integer.parseInt(d);
            if (n < least || n > most) {
                throw new Fault(2, at);
            }
            at += d.length();
            return n;
        }

        String name() {
            String w = word();
            if (w.isEmpty() || OWN_WORDS.contains(w)) {
                throw wrong();
            }
            if (w.length() > 6) {
                throw new Fault(1, at + 6);
            }
            return w;
        }

        void opening(int length) {
            if (open == 6) {
                throw new Fault(4, at);
            }
            open++;
            at += length;
        }

        Tree test() {
            Tree left = both();
            while (word().equals("or")) {
                at += 2;
                Tree a = left;
                Tree b = both();
                left = (f, l) -> a.in(f, l) != 0 || b.in(f, l) != 0 ? 1 : 0;
            }
            return left;
        }

        Tree both() {
            Tree left = fact();
            while (word().equals("and")) {
                at += 3;
                Tree a = left;
                Tree b = fact();
                left = (f, l) -> a.in(f, l) != 0 && b.in(f, l) != 0 ? 1 : 0;
            }
            return left;
        }

        Tree fact() {
            if (word().equals("not")) {
                opening(3);
                Tree t = fact();
                open--;
                return (f, l) -> 1 - t.in(f, l);
            }
            if (sign() == '[') {
                opening(1);
                Tree t = test();
                must(']');
                open--;
                return t;
            }
            if (word().equals("all")) {
                at += 3;
                return (f, l) -> 1;
            }
            Tree a = sum();
            char c = sign();
            if (c != '<' && c != '>' && c != '=') {
                throw wrong();
            }
            at++;
            Tree b = sum();
            return (f, l) -> {
                long x = a.in(f, l);
                long y = b.in(f, l);
                return (c == '<' ? x < y : c == '>' ? x > y : x == y) ? 1 : 0;
            };
        }

        static long cut(long x) {
            return Math.max(-1000000, Math.min(1000000, x));
        }

        Tree sum() {
            Tree left = product();
            while (sign() == '+' || sign() == '-') {
                char c = sign();
                at++;
                Tree a = left;
                Tree b = product();
                left = (f, l) -> cut(c == '+' ? a.in(f, l) + b.in(f, l) : a.in(f, l) - b.in(f, l));
            }
            return left;
        }

        Tree product() {
            Tree left = part();
            while (sign() == '*' || sign() == '/') {
                char c = sign();
                at++;
                Tree a = left;
                Tree b = part();
                left = (f, l) -> {
                    long x = a.in(f, l);
                    long y = b.in(f, l);
                    if (c == '*') {
                        return cut(x * y);
                    }
                    return y == 0 ? 0 : (long) Math.floor((double) x / y);
                };
            }
            return left;
        }

        Tree part() {
            if (!digits().isEmpty()) {
                long n = number(0, 9999);
                return (f, l) -> n;
            }
            if (sign() == '(') {
                opening(1);
                Tree t = sum();
                must(')');
                open--;
                return t;
            }
            String w = word();
            if (w.equals("min") || w.equals("max")) {
                at += 3;
                if (sign() != '(') {
                    throw wrong();
                }
                opening(1);
                Tree a = sum();
                must(',');
                Tree b = sum();
                must(')');
                open--;
                return (f, l) -> w.equals("min") ? Math.min(a.in(f, l), b.in(f, l)) : Math.max(a.in(f, l), b.in(f, l));
            }
            if (context.equals("question") && (w.equals("hate") || w.equals("tastes"))) {
                opening(w.length());
                Tree a = part();
                open--;
                return (f, l) -> l.of(w, a.in(f, l));
            }
            if (!factWords().contains(w)) {
                throw wrong();
            }
            at += w.length();
            return (f, l) -> f.get(w);
        }

        Set<String> factWords() {
            switch (context) {
                case "bakes":
                case "tastes": return Set.of("day", "flour", "salt", "hunger", "hate");
                case "cools": return Set.of("day", "hate", "loaves");
                case "question": return Set.of("number", "flour", "salt", "hunger", "feuds", "day");
                default: return Set.of("day", "flour", "salt", "hunger");
            }
        }
    }

    static Laws readDuchy(String s) {
        Text t = new Text(s);
        Laws laws = new Laws();
        while (!t.ended()) {
            if (laws.statements == 60) {
                throw new Fault(5, t.at);
            }
            String w = t.word();
            if (w.equals("loaf") != (laws.statements == 0)) {
                throw t.wrong();
            }
            statement(t, laws, w);
            t.must(';');
            laws.statements++;
        }
        if (laws.statements == 0) {
            throw new Fault(1, s.length());
        }
        return laws;
    }

    static void statement(Text t, Laws laws, String w) {
        List<House> houses = laws.first.houses;
        int begin = t.at;
        t.at += w.length();
        switch (w) {
            case "loaf":
                laws.loaf = t.number(1, 20);
                break;
            case "famine":
                laws.famine = t.number(0, 100);
                break;
            case "house": {
                if (houses.size() == 7) {
                    throw new Fault(5, begin);
                }
                House h = new House();
                h.name = t.name();
                if (find(laws, h.name) != NONE) {
                    throw new Fault(3, t.at);
                }
                t.at += h.name.length();
                t.must("flour");
                h.flour = t.number(0, 99);
                t.must("salt");
                h.salt = t.number(0, 9);
                houses.add(h);
                break;
            }
            case "feud": {
                int one = find(laws, t.name());
                if (one == NONE) {
                    throw new Fault(3, t.at);
                }
                t.at += houses.get(one).name.length();
                t.must("with");
                int other = find(laws, t.name());
                if (other == NONE || other == one || laws.first.hate(one, other) > 0) {
                    throw new Fault(3, t.at);
                }
                t.at += houses.get(other).name.length();
                t.must("hate");
                laws.first.hate(one, other, t.number(1, 99));
                break;
            }
            case "bakes":
            case "tastes":
            case "starves":
            case "cools":
            case "grows":
                if (laws.told.containsKey(w)) {
                    throw new Fault(5, begin);
                }
                t.context = w;
                laws.told.put(w, w.equals("starves") ? t.test() : t.sum());
                break;
            default:
                throw new Fault(1, begin);
        }
    }

    static int find(Laws laws, String name) {
        for (int i = 0; i < laws.first.houses.size(); i++) {
            if (laws.first.houses.get(i).name.equals(name)) {
                return i;
            }
        }
        return NONE;
    }

    // ---- days

    static long tell(Laws laws, String what, Map<String, Long> facts) {
        Tree t = laws.told.get(what);
        if (t != null) {
            return t.in(facts, null);
        }
        switch (what) {
            case "bakes":
            case "cools": return facts.get("hate");
            case "tastes": return facts.get("salt");
            case "starves": return facts.get("hunger") > 5 ? 1 : 0;
            default: return 1;
        }
    }

    static int upTo99(long x) {
        return (int) Math.max(0, Math.min(99, x));
    }

    static Map<String, Long> loafFacts(World w, int baker, int eater) {
        return Map.of("day", (long) w.day, "flour", (long) w.houses.get(baker).flour,
                "salt", (long) w.houses.get(baker).salt, "hunger", (long) w.houses.get(eater).hunger,
                "hate", (long) w.hate(baker, eater));
    }

    static Map<String, Long> houseFacts(World w, int house) {
        House h = w.houses.get(house);
        return Map.of("day", (long) w.day, "flour", (long) h.flour, "salt", (long) h.salt, "hunger", (long) h.hunger);
    }

    static int tasteOf(Laws laws, World w, int baker, int eater) {
        return upTo99(tell(laws, "tastes", loafFacts(w, baker, eater)));
    }

    /** The loaves of the day, as they are eaten. */
    static List<Loaf> eat(Laws laws, World w, Set<Integer> resting) {
        List<Loaf> loaves = new ArrayList<>();
        Set<Integer> baked = new HashSet<>();
        for (int e = 0; e < w.houses.size(); e++) {
            if (!w.houses.get(e).there) {
                continue;
            }
            int best = NONE;
            long most = Long.MIN_VALUE;
            for (int b = 0; b < w.houses.size(); b++) {
                if (b == e || w.hate(b, e) == 0 || w.houses.get(b).flour < laws.loaf || baked.contains(b)
                        || resting.contains(b)) {
                    continue;
                }
                long v = tell(laws, "bakes", loafFacts(w, b, e));
                if (v > most) {
                    most = v;
                    best = b;
                }
            }
            if (best == NONE) {
                w.houses.get(e).hunger = Math.min(9, w.houses.get(e).hunger + 1);
            } else {
                loaves.add(new Loaf(w.day, best, e, tasteOf(laws, w, best, e)));
                w.houses.get(best).flour -= laws.loaf;
                w.houses.get(e).hunger = 0;
                baked.add(best);
            }
        }
        return loaves;
    }

    static List<Loaf> day(Laws laws, World w, Set<Integer> resting) {
        List<Loaf> loaves = eat(laws, w, resting);
        w.loaves.addAll(loaves);
        List<Integer> starving = new ArrayList<>();
        for (int h = 0; h < w.houses.size(); h++) {
            if (w.houses.get(h).there && tell(laws, "starves", houseFacts(w, h)) != 0) {
                starving.add(h);
            }
        }
        for (int h : starving) {
            w.houses.get(h).there = false;
            for (int o = 0; o < w.houses.size(); o++) {
                w.hate(h, o, 0);
            }
        }
        for (String key : new ArrayList<>(w.feuds.keySet())) {
            int a = key.charAt(0) - '0';
            int b = key.charAt(2) - '0';
            long between = loaves.stream()
                    .filter(x -> x.baker == a && x.eater == b || x.baker == b && x.eater == a).count();
            w.hate(a, b, upTo99(tell(laws, "cools",
                    Map.of("day", (long) w.day, "hate", (long) w.hate(a, b), "loaves", between))));
        }
        for (int h = 0; h < w.houses.size(); h++) {
            if (w.houses.get(h).there) {
                w.houses.get(h).flour = upTo99(w.houses.get(h).flour + tell(laws, "grows", houseFacts(w, h)));
            }
        }
        w.day++;
        return loaves;
    }

    // ---- the object

    private final List<Integer> tape = new ArrayList<>();
    private Laws laws;
    private World now = new World();
    private final Deque<World> before = new ArrayDeque<>();
    private List<int[]> seen = new ArrayList<>();
    private List<Integer> picture = new ArrayList<>();
    private final int[] refused = new int[6];
    private long x = 1;
    private int fault;
    private int place = NONE;

    private int refuse(int what) {
        refused[what]++;
        return NONE;
    }

    private String takeTape() {
        StringBuilder b = new StringBuilder();
        for (int i : tape) {
            b.append((char) i);
        }
        tape.clear();
        return b.toString();
    }

    private boolean known(int h) {
        return h >= 0 && h < now.houses.size();
    }

    public int feed(int... five) {
        if (tape.size() + 20 > 1600) {
            return refuse(0);
        }
        for (int v : five) {
            tape.add(v >>> 24);
            tape.add(v >> 16 & 255);
            tape.add(v >> 8 & 255);
            tape.add(v & 255);
        }
        return tape.size();
    }

    public boolean end(int n) {
        if (n < 0 || n > tape.size()) {
            refuse(0);
            return false;
        }
        while (tape.size() > n) {
            tape.remove(tape.size() - 1);
        }
        return true;
    }

    public int duchy() {
        try {
            laws = readDuchy(takeTape());
        } catch (Fault f) {
            fault = f.kind;
            place = f.place;
            return refuse(1);
        }
        fault = 0;
        place = NONE;
        now = laws.first.copy();
        before.clear();
        seen.clear();
        return laws.statements;
    }

    public int fault(int what) {
        return what == 0 ? fault : what == 1 ? place : NONE;
    }

    private List<Loaf> told() {
        return now.loaves.subList(Math.max(0, now.loaves.size() - 40), now.loaves.size());
    }

    private long enemies(int h) {
        long n = 0;
        for (int o = 0; o < now.houses.size(); o++) {
            if (o != h && now.hate(h, o) > 0) {
                n++;
            }
        }
        return n;
    }

    public int has(int what) {
        switch (what) {
            case 0: return laws == null ? 0 : laws.loaf;
            case 1: return now.houses.size();
            case 2: return now.day;
            case 3: return (int) now.houses.stream().filter(h -> h.there).count();
            case 4: return now.feuds.size();
            case 5: return now.houses.stream().filter(h -> h.there).mapToInt(h -> h.flour).sum();
            case 6: return told().size();
            case 7: return seen.size();
            case 8: return before.size();
            default: return NONE;
        }
    }

    public int letter(int h, int k) {
        if (!known(h) || k < 0 || k > 5) {
            return NONE;
        }
        String n = now.houses.get(h).name;
        return k < n.length() ? n.charAt(k) - 96 : 0;
    }

    public int house(int h, int what) {
        if (!known(h)) {
            return NONE;
        }
        House x = now.houses.get(h);
        switch (what) {
            case 0: return x.flour;
            case 1: return x.salt;
            case 2: return x.hunger;
            case 3: return x.there ? 1 : 0;
            case 4: return (int) enemies(h);
            default: return NONE;
        }
    }

    public int hate(int a, int b) {
        return known(a) && known(b) && a != b ? now.hate(a, b) : NONE;
    }

    public int baker(int h) {
        if (!known(h)) {
            return NONE;
        }
        for (Loaf l : eat(laws, now.copy(), Set.of())) {
            if (l.eater == h) {
                return l.baker;
            }
        }
        return NONE;
    }

    public int taste(int b, int h) {
        return hate(b, h) > 0 ? tasteOf(laws, now, b, h) : NONE;
    }

    public int kept(int k, int what) {
        if (k < 0 || k >= told().size()) {
            return NONE;
        }
        Loaf l = told().get(k);
        switch (what) {
            case 0: return l.day;
            case 1: return l.baker;
            case 2: return l.eater;
            case 3: return l.taste;
            default: return NONE;
        }
    }

    private World behind(int n) {
        World w = now.copy();
        for (int i = 0; i < n; i++) {
            day(laws, w, Set.of());
        }
        return w;
    }

    private boolean can(int n, int least, int most) {
        return n >= least && n <= most && now.day + n <= 999;
    }

    public int later(int h, int n, int what) {
        if (!known(h) || !can(n, 0, 60)) {
            return NONE;
        }
        House x = behind(n).houses.get(h);
        return what == 0 ? x.flour : what == 1 ? x.hunger : what == 2 ? (x.there ? 1 : 0) : NONE;
    }

    public int cooled(int a, int b, int n) {
        return known(a) && known(b) && a != b && can(n, 0, 60) ? behind(n).hate(a, b) : NONE;
    }

    public int starves(int h) {
        if (!known(h) || !now.houses.get(h).there) {
            return NONE;
        }
        for (int d = 0; d < 60 && now.day + d < 999; d++) {
            if (!behind(d + 1).houses.get(h).there) {
                return d;
            }
        }
        return NONE;
    }

    // Rows in their order: the first of the best ones is the first that is better than all ahead of it.
    private int[] bestRow;
    private int bestEat;
    private int bestHate;

    private void rows(World w, int h, int[] row, int eat, int hate) {
        if (h == row.length) {
            if (bestRow == null || eat > bestEat || eat == bestEat && hate < bestHate) {
                bestRow = row.clone();
                bestEat = eat;
                bestHate = hate;
            }
            return;
        }
        row[h] = NONE;
        rows(w, h + 1, row, eat, hate);
        for (int b = 0; b < row.length; b++) {
            boolean twice = false;
            for (int i = 0; i < h; i++) {
                twice |= row[i] == b;
            }
            if (!twice && b != h && w.hate(b, h) > 0 && w.houses.get(b).flour >= laws.loaf) {
                row[h] = b;
                rows(w, h + 1, row, eat + 1, hate + w.hate(b, h));
            }
        }
        row[h] = NONE;
    }

    private void seat(World w) {
        bestRow = null;
        rows(w, 0, new int[w.houses.size()], 0, 0);
    }

    public int table(int what) {
        if (laws == null) {
            return NONE;
        }
        seat(now);
        if (what == 0) {
            return bestEat;
        }
        if (what == 1) {
            return bestHate;
        }
        return what >= 2 && what < 2 + bestRow.length ? bestRow[what - 2] : NONE;
    }

    private boolean allEat(List<Integer> more) {
        World w = now.copy();
        for (int p : more) {
            w.hate(p / 8, p % 8, 1);
        }
        return canAllEat(w, 0, new HashSet<>());
    }

    private boolean canAllEat(World w, int h, Set<Integer> baked) {
        if (h == w.houses.size()) {
            return true;
        }
        if (!w.houses.get(h).there) {
            return canAllEat(w, h + 1, baked);
        }
        for (int b = 0; b < w.houses.size(); b++) {
            if (b != h && w.hate(b, h) > 0 && w.houses.get(b).flour >= laws.loaf && baked.add(b)) {
                if (canAllEat(w, h + 1, baked)) {
                    return true;
                }
                baked.remove(b);
            }
        }
        return false;
    }

    private List<Integer> wanted() {
        List<Integer> free = new ArrayList<>();
        for (int a = 0; a < now.houses.size(); a++) {
            for (int b = a + 1; b < now.houses.size(); b++) {
                if (now.houses.get(a).there && now.houses.get(b).there && now.hate(a, b) == 0) {
                    free.add(8 * a + b);
                }
            }
        }
        if (allEat(List.of())) {
            return List.of();
        }
        for (int a : free) {
            if (allEat(List.of(a))) {
                return List.of(a);
            }
        }
        for (int a : free) {
            for (int b : free) {
                if (b > a && allEat(List.of(a, b))) {
                    return List.of(a, b);
                }
            }
        }
        for (int a : free) {
            for (int b : free) {
                for (int c : free) {
                    if (b > a && c > b && allEat(List.of(a, b, c))) {
                        return List.of(a, b, c);
                    }
                }
            }
        }
        return null;
    }

    public int wanting(int k) {
        List<Integer> row = laws == null ? null : wanted();
        if (row == null) {
            return NONE;
        }
        return k == NONE ? row.size() : k >= 0 && k < row.size() ? row.get(k) : NONE;
    }

    public int spared(int n, int k) {
        if (laws == null || !can(n, 1, 20) || now.feuds.size() > 10) {
            return NONE;
        }
        List<String> feuds = new ArrayList<>(now.feuds.keySet());
        World none = behind(n);
        int best = 0;
        for (int bits = 1; bits < 1 << feuds.size(); bits++) {
            World w = now.copy();
            for (int i = 0; i < feuds.size(); i++) {
                if ((bits >> i & 1) != 0) {
                    w.feuds.remove(feuds.get(i));
                }
            }
            for (int i = 0; i < n; i++) {
                day(laws, w, Set.of());
            }
            boolean fine = true;
            for (int h = 0; h < w.houses.size(); h++) {
                fine &= w.houses.get(h).there || !none.houses.get(h).there;
            }
            if (fine && Integer.bitCount(bits) > Integer.bitCount(best)) {
                best = bits;
            }
        }
        if (k == NONE) {
            return Integer.bitCount(best);
        }
        List<Integer> row = new ArrayList<>();
        for (int i = 0; i < feuds.size(); i++) {
            if ((best >> i & 1) != 0) {
                row.add(8 * (feuds.get(i).charAt(0) - '0') + feuds.get(i).charAt(2) - '0');
            }
        }
        return k >= 0 && k < row.size() ? row.get(k) : NONE;
    }

    private int[] hungers(int set, int n) {
        Set<Integer> resting = new HashSet<>();
        for (int h = 0; h < now.houses.size(); h++) {
            if ((set >> h & 1) != 0) {
                resting.add(h);
            }
        }
        World w = now.copy();
        for (int i = 0; i < n; i++) {
            day(laws, w, resting);
        }
        return w.houses.stream().mapToInt(h -> h.there ? h.hunger : 10).toArray();
    }

    public int rest(int n) {
        if (laws == null || !can(n, 1, 20)) {
            return NONE;
        }
        int houses = now.houses.size();
        int[][] hungers = new int[1 << houses][];
        for (int set = 0; set < 1 << houses; set++) {
            hungers[set] = hungers(set, n);
        }
        int best = NONE;
        for (int set = 0; set < 1 << houses; set++) {
            boolean rests = true;
            for (int h = 0; h < houses; h++) {
                rests &= hungers[set ^ 1 << h][h] >= hungers[set][h];
            }
            if (rests && (best == NONE || Integer.bitCount(set) < Integer.bitCount(best))) {
                best = set;
            }
        }
        return best;
    }

    public int see() {
        String t = takeTape();
        List<int[]> rows = new ArrayList<>();
        for (int i = 0; i + 3 <= t.length(); i += 3) {
            rows.add(new int[] {t.charAt(i), t.charAt(i + 1), t.charAt(i + 2)});
        }
        boolean fine = t.length() % 3 == 0 && rows.size() >= 1 && rows.size() <= 16;
        for (int[] r : rows) {
            fine &= r[0] <= 30 && known(r[1]) && (r[2] <= 99 || r[2] == 255);
        }
        if (!fine) {
            return refuse(1);
        }
        seen = rows;
        return rows.size();
    }

    /** How the loaves taste that are eaten day by day, 255 for none. */
    private int[][] tasted(int house, int flour, int days) {
        World w = now.copy();
        w.houses.get(house).flour = flour;
        int[][] tastes = new int[days][w.houses.size()];
        for (int d = 0; d < days; d++) {
            java.util.Arrays.fill(tastes[d], 255);
            for (Loaf l : day(laws, w, Set.of())) {
                tastes[d][l.eater] = l.taste;
            }
        }
        return tastes;
    }

    private Map<Integer, int[][]> numbers(int house) {
        Map<Integer, int[][]> left = new TreeMap<>();
        for (int f = 0; f <= 99; f++) {
            int[][] tastes = tasted(house, f, Math.min(31, 999 - now.day));
            boolean fine = true;
            for (int[] r : seen) {
                fine &= r[0] < tastes.length && tastes[r[0]][r[1]] == r[2];
            }
            if (fine) {
                left.put(f, tastes);
            }
        }
        return left;
    }

    public int flour(int h, int what) {
        if (!known(h) || !now.houses.get(h).there || what < 0 || what > 2) {
            return NONE;
        }
        TreeMap<Integer, int[][]> left = new TreeMap<>(numbers(h));
        if (what == 0) {
            return left.size();
        }
        return left.isEmpty() ? NONE : what == 1 ? left.firstKey() : left.lastKey();
    }

    public int tells(int h, int what) {
        if (!known(h) || !now.houses.get(h).there || what < 0 || what > 2) {
            return NONE;
        }
        Map<Integer, int[][]> left = numbers(h);
        if (left.isEmpty() || now.day == 999) {
            return NONE;
        }
        int[] best = null;
        for (int d = 0; d < 31 && now.day + d < 999; d++) {
            for (int e = 0; e < now.houses.size(); e++) {
                Map<Integer, Integer> parts = new TreeMap<>();
                for (int[][] tastes : left.values()) {
                    parts.merge(tastes[d][e], 1, Integer::sum);
                }
                int most = parts.values().stream().mapToInt(i -> i).max().orElse(0);
                if (best == null || most < best[2]) {
                    best = new int[] {d, e, most};
                }
            }
        }
        return best[what];
    }

    private void act() {
        before.addLast(now.copy());
        if (before.size() > 20) {
            before.removeFirst();
        }
    }

    public boolean feud(int a, int b, int hate) {
        if (!known(a) || !known(b) || a == b || !now.houses.get(a).there || !now.houses.get(b).there
                || hate < 0 || hate > 99 || now.hate(a, b) == hate) {
            refuse(2);
            return false;
        }
        act();
        now.hate(a, b, hate);
        return true;
    }

    public boolean bring(int h, int flour) {
        if (!known(h) || !now.houses.get(h).there || flour < 0 || flour > 99 || now.houses.get(h).flour == flour) {
            refuse(2);
            return false;
        }
        act();
        now.houses.get(h).flour = flour;
        return true;
    }

    public int days(int n) {
        if (laws == null || !can(n, 1, 100)) {
            return refuse(3);
        }
        act();
        int loaves = 0;
        for (int i = 0; i < n; i++) {
            loaves += day(laws, now, Set.of()).size();
        }
        return loaves;
    }

    private int draw(int m) {
        x = (1103515245L * x + 12345) % (1L << 31);
        return (int) (x / 64 % m);
    }

    public int chance(int n) {
        if (laws == null || !can(n, 1, 100)) {
            return refuse(3);
        }
        act();
        int famines = 0;
        for (int i = 0; i < n; i++) {
            boolean famine = draw(100) < laws.famine;
            if (famine && !now.houses.isEmpty()) {
                House h = now.houses.get(draw(now.houses.size()));
                h.flour = h.flour / 2;
                famines++;
            }
            day(laws, now, Set.of());
        }
        return famines;
    }

    public boolean undo() {
        if (before.isEmpty()) {
            refuse(4);
            return false;
        }
        now = before.removeLast();
        return true;
    }

    public boolean seed(int seed) {
        if (seed < 0) {
            refuse(5);
            return false;
        }
        x = seed;
        return true;
    }

    public long ask() {
        String s = takeTape();
        if (laws == null) {
            return NOTHING;
        }
        Text t = new Text(s);
        t.context = "question";
        String w = t.word();
        Tree tree;
        try {
            if (!Set.of("first", "last", "often", "total", "most", "least").contains(w)) {
                throw t.wrong();
            }
            t.at += w.length();
            tree = Set.of("first", "last", "often").contains(w) ? t.test() : t.sum();
            if (!t.ended()) {
                throw t.wrong();
            }
        } catch (Fault f) {
            fault = f.kind;
            place = f.place;
            return NOTHING;
        }
        fault = 0;
        place = NONE;
        TreeMap<Integer, Long> values = new TreeMap<>();
        for (int h = 0; h < now.houses.size(); h++) {
            if (now.houses.get(h).there) {
                values.put(h, valueFor(tree, h));
            }
        }
        List<Integer> holding = new ArrayList<>();
        values.forEach((h, v) -> {
            if (v != 0) {
                holding.add(h);
            }
        });
        switch (w) {
            case "first": return holding.isEmpty() ? NONE : holding.get(0);
            case "last": return holding.isEmpty() ? NONE : holding.get(holding.size() - 1);
            case "often": return holding.size();
            case "total": return values.values().stream().mapToLong(v -> v).sum();
            case "most": return values.values().stream().mapToLong(v -> v).max().orElse(0);
            default: return values.values().stream().mapToLong(v -> v).min().orElse(0);
        }
    }

    private long valueFor(Tree tree, int h) {
        House x = now.houses.get(h);
        return tree.in(Map.of("number", (long) h, "flour", (long) x.flour, "salt", (long) x.salt,
                "hunger", (long) x.hunger, "feuds", enemies(h), "day", (long) now.day), (word, n) -> {
            boolean enemy = n >= 0 && n < now.houses.size() && n != h && now.hate((int) n, h) > 0;
            if (word.equals("hate")) {
                return enemy ? now.hate((int) n, h) : 0;
            }
            return enemy ? tasteOf(laws, now, (int) n, h) : -1;
        });
    }

    private static List<Integer> imageOf(World w) {
        List<Integer> b = new ArrayList<>();
        b.add(w.day / 256);
        b.add(w.day % 256);
        for (House h : w.houses) {
            b.add(h.there ? 1 : 0);
            b.add(h.flour);
            b.add(h.hunger);
        }
        for (int i = 0; i < w.houses.size(); i++) {
            for (int j = i + 1; j < w.houses.size(); j++) {
                b.add(w.hate(i, j));
            }
        }
        int c = 233;
        for (int i : b) {
            c = (3 * c + i) % 251;
        }
        b.add(c);
        return b;
    }

    public int image() {
        picture = imageOf(now);
        return picture.size();
    }

    public int octet(int k) {
        return k >= 0 && k < picture.size() ? picture.get(k) : NONE;
    }

    public boolean on() {
        List<Integer> b = new ArrayList<>(tape);
        tape.clear();
        if (laws == null || b.size() != imageOf(now).size()) {
            refuse(5);
            return false;
        }
        World w = now.copy();
        w.loaves.clear();
        w.feuds.clear();
        int at = 0;
        w.day = b.get(at++) * 256 + b.get(at++);
        boolean fine = w.day <= 999;
        for (House h : w.houses) {
            fine &= b.get(at) <= 1;
            h.there = b.get(at++) == 1;
            h.flour = b.get(at++);
            h.hunger = b.get(at++);
            fine &= h.flour <= 99 && h.hunger <= 9;
        }
        for (int i = 0; i < w.houses.size(); i++) {
            for (int j = i + 1; j < w.houses.size(); j++) {
                int hate = b.get(at++);
                fine &= hate <= 99 && (hate == 0 || w.houses.get(i).there && w.houses.get(j).there);
                w.hate(i, j, hate);
            }
        }
        if (!fine || !imageOf(w).equals(b)) {
            refuse(5);
            return false;
        }
        now = w;
        before.clear();
        return true;
    }

    public int status(int what) {
        return what >= 0 && what < 6 ? refused[what] : NONE;
    }
}
