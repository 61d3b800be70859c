import java.util.ArrayList;
import java.util.List;
import java.util.Random;

/** Makes texts by chance, from a given start, so that each run of the tests sees the same ones. */
final class Texts {
    private final Random r;

    Texts(Random r) {
        this.r = r;
    }

    private String of(String... words) {
        return words[r.nextInt(words.length)];
    }

    private String blank() {
        return r.nextInt(6) == 0 ? of("  ", "\n", " \n") : " ";
    }

    private String maybe() {
        return r.nextInt(3) == 0 ? blank() : "";
    }

    private String name() {
        if (r.nextInt(200) == 0) {
            return of("loaf", "starves", "hate", "abcdefg", "first", "most", "min", "starve", "starvess", "and");
        }
        StringBuilder b = new StringBuilder();
        int n = r.nextInt(3) == 0 ? 6 : 1 + r.nextInt(3);
        for (int i = 0; i < n; i++) {
            b.append((char) ('a' + r.nextInt(26)));
        }
        return b.toString();
    }

    private String number(int most) {
        if (r.nextInt(150) == 0) {
            return of("0", "100", "101", "10000", "99999", "123456", "0007", "9999", "10", "");
        }
        return "" + r.nextInt(most + 1);
    }

    String part(String context, int depth) {
        int k = r.nextInt(10);
        if (depth > 0 && k < 2) {
            return "(" + maybe() + sum(context, depth - 1) + maybe() + ")";
        }
        if (depth > 0 && k == 2) {
            return of("min", "max") + maybe() + "(" + sum(context, depth - 1) + maybe() + ","
                    + sum(context, depth - 1) + ")";
        }
        if (depth > 0 && k < 5 && context.equals("question")) {
            return of("hate", "tastes") + blank() + part(context, depth - 1);
        }
        if (k < 7) {
            return r.nextInt(4) == 0 ? number(9999) : number(12);
        }
        if (r.nextInt(300) == 0) {
            return of("loaves", "feuds", "hate", "flour", "number", "x", "hates", "tastes", "all", "not");
        }
        switch (context) {
            case "bakes":
            case "tastes": return of("day", "flour", "salt", "hunger", "hate");
            case "cools": return of("day", "hate", "loaves", "hate");
            case "question": return of("number", "flour", "salt", "hunger", "feuds", "day");
            default: return of("day", "flour", "salt", "hunger");
        }
    }

    String product(String context, int depth) {
        StringBuilder b = new StringBuilder(part(context, depth));
        while (r.nextInt(4) == 0) {
            b.append(maybe()).append(of("*", "/")).append(maybe()).append(part(context, depth));
        }
        return b.toString();
    }

    String sum(String context, int depth) {
        StringBuilder b = new StringBuilder(product(context, depth));
        while (r.nextInt(3) == 0) {
            b.append(maybe()).append(of("+", "-", "-")).append(maybe()).append(product(context, depth));
        }
        return b.toString();
    }

    String fact(String context, int depth) {
        int k = r.nextInt(8);
        if (depth > 0 && k == 0) {
            return "not " + fact(context, depth - 1);
        }
        if (depth > 0 && k < 3) {
            return "[" + maybe() + test(context, depth - 1) + maybe() + "]";
        }
        if (k == 3 && r.nextInt(3) == 0) {
            return "all";
        }
        return sum(context, depth) + maybe() + of("<", ">", "=") + maybe() + sum(context, depth);
    }

    String test(String context, int depth) {
        StringBuilder b = new StringBuilder(fact(context, depth));
        while (r.nextInt(4) == 0) {
            b.append(blank()).append(of("and", "or")).append(blank()).append(fact(context, depth));
        }
        return b.toString();
    }

    /** Houses and feuds, all kinds of laws, now and then a fault by chance. */
    String duchy() {
        int houses = r.nextInt(12) == 0 ? r.nextInt(9) : 2 + r.nextInt(6);
        List<String> names = new ArrayList<>();
        StringBuilder b = new StringBuilder();
        b.append(maybe()).append("loaf").append(blank()).append(1 + r.nextInt(20)).append(maybe()).append(";");
        List<String> rest = new ArrayList<>();
        for (int i = 0; i < houses; i++) {
            String n = name();
            names.add(n);
            b.append(maybe()).append("house").append(blank()).append(n).append(blank()).append("flour").append(blank())
                    .append(number(r.nextBoolean() ? 99 : 40)).append(blank()).append("salt").append(blank())
                    .append(number(9)).append(";").append(maybe());
        }
        int density = 1 + r.nextInt(5);
        for (int i = 0; i < names.size(); i++) {
            for (int j = 0; j < i; j++) {
                if (r.nextInt(6) < density) {
                    boolean turn = r.nextBoolean();
                    rest.add("feud " + names.get(turn ? i : j) + " with " + names.get(turn ? j : i) + blank() + "hate "
                            + (r.nextInt(3) == 0 ? 1 + r.nextInt(4) : 1 + r.nextInt(99)));
                }
            }
        }
        if (r.nextInt(40) == 0 && names.size() > 1) {
            rest.add("feud " + names.get(0) + " with " + names.get(r.nextInt(names.size())) + " hate 5");
        }
        laws(rest);
        java.util.Collections.shuffle(rest, r);
        for (String s : rest) {
            b.append(maybe()).append(s).append(maybe()).append(";");
        }
        return b.append(maybe()).toString();
    }

    private void laws(List<String> rest) {
        int depth = r.nextInt(30) == 0 ? 7 : r.nextInt(3);
        for (String kind : new String[] {"bakes", "tastes", "cools", "grows"}) {
            if (r.nextInt(2) == 0) {
                rest.add(kind + blank() + sum(kind, depth));
            }
        }
        if (r.nextInt(3) == 0) {
            rest.add(of("cools hate-loaves", "cools hate-1", "cools hate-loaves*4", "cools hate+loaves-day/3"));
        }
        if (r.nextInt(3) == 0) {
            rest.add(of("grows 2-hunger", "grows salt", "grows hunger*3-1", "grows 5"));
        }
        if (r.nextInt(3) == 0) {
            rest.add("starves" + blank() + test("starves", depth));
        } else if (r.nextInt(2) == 0) {
            rest.add(of("starves hunger>2", "starves hunger > 3 and day > 2", "starves hunger>8 or flour > 97"));
        }
        while (r.nextInt(3) == 0) {
            rest.add("famine" + blank() + number(100));
        }
    }

    String question() {
        int depth = r.nextInt(8) == 0 ? 7 : r.nextInt(3);
        return maybe() + (r.nextBoolean() ? of("first", "last", "often") + blank() + test("question", depth)
                : of("total", "most", "least") + blank() + sum("question", depth)) + maybe();
    }

    /** Nothing but openings, so that the depth at which they end comes by chance. */
    String deep(String context) {
        StringBuilder b = new StringBuilder(context.equals("question") ? "often " : "loaf 1;starves ");
        StringBuilder closing = new StringBuilder();
        boolean sum = false;
        int n = 4 + r.nextInt(5);
        for (int i = 0; i < n; i++) {
            int k = sum ? 2 + r.nextInt(context.equals("question") ? 4 : 2) : r.nextInt(3);
            switch (k) {
                case 0:
                    b.append("not ");
                    break;
                case 1:
                    b.append("[");
                    closing.insert(0, "]");
                    break;
                case 2:
                    b.append("(");
                    closing.insert(0, sum ? ")" : ")>1");
                    sum = true;
                    break;
                case 3:
                    b.append("min(3,");
                    closing.insert(0, ")");
                    break;
                default:
                    b.append(k == 4 ? "hate " : "tastes ");
            }
        }
        b.append(sum ? "day" : "all").append(closing);
        return b.append(context.equals("question") ? "" : ";").toString();
    }

    /** A text with a few bytes lost, added or changed. */
    String spoilt(String s) {
        StringBuilder b = new StringBuilder(s);
        for (int n = 1 + r.nextInt(2); n > 0; n--) {
            int at = r.nextInt(b.length() + 1);
            switch (r.nextInt(5)) {
                case 0:
                    b.setLength(at);
                    break;
                case 1:
                    b.insert(at, of(";", " ", "a", "7", "(", "[", "not ", "e", "12345", "loaf", "feud ", "\t", "A", "é"));
                    break;
                case 2:
                    if (at < b.length()) {
                        b.deleteCharAt(at);
                    }
                    break;
                case 3:
                    if (at < b.length()) {
                        b.setCharAt(at, (char) r.nextInt(256));
                    }
                    break;
                default:
                    if (at < b.length()) {
                        b.setCharAt(at, of("a", "9", " ", ";", "]", ")", "+", "<", ",").charAt(0));
                    }
            }
        }
        return b.toString();
    }
}
