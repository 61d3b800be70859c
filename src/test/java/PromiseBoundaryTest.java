import java.util.function.BooleanSupplier;
import java.util.function.LongSupplier;

/** The edges of the calls: each sentence of promises 1 to 33 that names one. */
public final class PromiseBoundaryTest extends Sentences {
    private static final String PAIR = houses(2) + "feud a with b hate 4;";
    private static final int[] NO_HOUSES = {-1, 3, 7, 8, 64, Integer.MIN_VALUE, Integer.MAX_VALUE};

    /** A new object with three houses, the third one gone, a feud, acts, loaves and a row seen. */
    private static EnemyBread three() {
        EnemyBread e = of(houses(3) + "feud a with b hate 4;feud a with c hate 1;starves salt=3;");
        // a and b bake for one another in both DAYS; c, whose only enemy has baked, is hungry, and gone.
        due("days(2)", e.days(2), 4);
        put(e, 0, 0, 2).see();
        return e;
    }

    /** What can be told of an object, but for its faults and refusals. */
    private static String all(EnemyBread e) {
        StringBuilder b = new StringBuilder();
        for (int i = 0; i < 9; i++) {
            b.append(e.has(i)).append(' ');
        }
        for (int house = 0; house < 3; house++) {
            for (int i = 0; i < 6; i++) {
                b.append(e.letter(house, i)).append(' ').append(e.house(house, i)).append(' ');
            }
            b.append(e.hate(house, 0)).append(' ').append(e.hate(house, 1)).append(' ').append(e.flour(house, 0)).append(' ');
        }
        for (int k = 0; k < 8; k++) {
            b.append(e.kept(k, 0)).append(' ').append(e.kept(k, 1)).append(' ').append(e.kept(k, 3)).append(' ');
        }
        return b.toString();
    }

    /** A call that must be refused, counted once, where it belongs, and leave all as it is. */
    private static void refused(EnemyBread e, int kind, String call, long want, LongSupplier answer) {
        int[] before = statuses(e);
        String stays = all(e);
        due(call, answer.getAsLong(), want);
        int[] behind = statuses(e);
        for (int what = 0; what < 6; what++) {
            due("status(" + what + ") behind " + call, behind[what], before[what] + (what == kind ? 1 : 0));
        }
        must("all stays behind " + call, all(e).equals(stays));
    }

    private static void refused(EnemyBread e, int kind, String call, BooleanSupplier answer) {
        refused(e, kind, call, 0, () -> answer.getAsBoolean() ? 1 : 0);
    }

    private static int[] statuses(EnemyBread e) {
        int[] all = new int[6];
        for (int what = 0; what < 6; what++) {
            all[what] = e.status(what);
        }
        return all;
    }

    @Says(in = "What it is", text = "An object is used for at most 512 calls after it has been made")
    static void lastCall() {
        EnemyBread e = new EnemyBread();
        for (int i = 1; i < 510; i++) {
            e.seed(i - 400);
        }
        // Calls 510, 511 and the last one.
        e.feed(0x6c6f6166, 0x20373b20, 0x20202020, 0x20202020, 0x20202020);
        due("duchy()", e.duchy(), 1);
        due("status(5)", e.status(5), 399);
        EnemyBread days = of(PAIR + "grows 5;");
        for (int i = 0; i < 500; i++) {
            due("days(1)", days.days(1), 2);
        }
        due("has(2)", days.has(2), 500);
        due("has(8)", days.has(8), 20);
        due("kept(39, 0)", days.kept(39, 0), 499);
    }

    @Says(in = "Promise 1", text = "No duchy, no houses.")
    static void aNewObject() {
        EnemyBread e = new EnemyBread();
        for (int what = 0; what <= 8; what++) {
            due("has(" + what + ")", e.has(what), 0);
        }
        for (int house = 0; house < 7; house++) {
            due("letter(" + house + ", 0)", e.letter(house, 0), NONE);
            due("house(" + house + ", 0)", e.house(house, 0), NONE);
        }
        due("table(0)", e.table(0), NONE);
        due("image()", e.image(), 3);
        due("end(1)", e.end(1), false);
    }

    @Says(in = "Promise 2", text = "Twenty bytes come behind those on the tape, of each number the highest first: how many there are")
    static void twentyBytes() {
        EnemyBread e = new EnemyBread();
        due("feed()", e.feed(1, 2, 3, 4, 5), 20);
        due("feed()", e.feed(1, 2, 3, 4, 5), 40);
        e.end(33);
        due("feed() behind end(33)", e.feed(1, 2, 3, 4, 5), 53);
        e.end(0);
        due("feed() behind end(0)", e.feed(-1, -1, -1, -1, -1), 20);
        e.end(0);
        // "loaf 7;fami" and behind them "ne 1;" over a number's and a call's end.
        e.feed(0x6c6f6166, 0x20373b66, 0x616d6900, 0, 0);
        e.end(11);
        due("feed()", e.feed(0x6e652031, 0x3b202020, 0x20202020, 0x20202020, 0x20202020), 31);
        due("duchy()", e.duchy(), 2);
        due("has(0)", e.has(0), 7);
        // Bytes above 127 are no numbers below 0: 1, 1, 255 and 30, 0, 99 as rows.
        put(e, houses(2)).duchy();
        e.feed(0x0101ff1e, 0x0063ffff, 0, 0, 0);
        e.end(6);
        due("see()", e.see(), 2);
    }

    @Says(in = "Promise 2", text = "NONE, refused (0), if there would be more than 1600.")
    static void fullTape() {
        EnemyBread e = new EnemyBread();
        for (int i = 1; i <= 80; i++) {
            due("feed() " + i, e.feed(0x20202020, 0x20202020, 0x20202020, 0x20202020, 0x20202020), 20 * i);
        }
        refused(e, 0, "feed() of 1620", NONE, () -> e.feed(1, 2, 3, 4, 5));
        due("end(1600): the tape stays", e.end(1600), true);
        due("end(1581)", e.end(1581), true);
        refused(e, 0, "feed() of 1601", NONE, () -> e.feed(1, 2, 3, 4, 5));
        due("end(1580)", e.end(1580), true);
        due("feed() of 1600", e.feed(0x6c6f6166, 0x20373b20, 0x20202020, 0x20202020, 0x20202020), 1600);
        due("duchy() of 1600 bytes", e.duchy(), 1);
    }

    @Says(in = "Promise 3", text = "The tape has its first n bytes alone: true;")
    static void ends() {
        EnemyBread e = new EnemyBread();
        due("end(0) of an empty one", e.end(0), true);
        e.feed(0x6c6f6166, 0x20353b21, 0, 0, 0);
        due("end(20) of all", e.end(20), true);
        due("end(8)", e.end(8), true);
        due("end(8) again", e.end(8), true);
        due("end(7)", e.end(7), true);
        due("duchy()", e.duchy(), 1);
        e.feed(0, 0, 0, 0, 0);
        due("end(0)", e.end(0), true);
        due("feed()", e.feed(0, 0, 0, 0, 0), 20);
    }

    @Says(in = "Promise 3", text = "false, refused (0), if it has not so many, or n is below 0.")
    static void endsTooFar() {
        EnemyBread e = new EnemyBread();
        refused(e, 0, "end(1) of an empty one", () -> e.end(1));
        refused(e, 0, "end(-1)", () -> e.end(-1));
        e.feed(0, 0, 0, 0, 0);
        refused(e, 0, "end(21)", () -> e.end(21));
        refused(e, 0, "end(max)", () -> e.end(Integer.MAX_VALUE));
        refused(e, 0, "end(min)", () -> e.end(Integer.MIN_VALUE));
        due("the tape stays", e.end(20), true);
        due("end(19)", e.end(19), true);
        refused(e, 0, "end(20) behind end(19)", () -> e.end(20));
    }

    @Says(in = "Promise 4", text = "The tape (it goes) is THE DUCHY: how many STATEMENTS;")
    static void duchies() {
        EnemyBread e = put(new EnemyBread(), "loaf 9;");
        due("duchy()", e.duchy(), 1);
        due("the tape goes", e.end(1), false);
        due("duchy() of 60", put(e, "loaf 5;" + "famine 1;".repeat(59)).duchy(), 60);
        due("duchy() with a FAULT", put(e, "loaf 0;").duchy(), NONE);
        due("the tape goes with a FAULT, too", e.end(1), false);
        due("feed()", e.feed(0, 0, 0, 0, 0), 20);
    }

    @Says(in = "Promise 4", text = "NONE, refused (1), with a FAULT (all stays; one without a STATEMENT has FAULT 1 at its length).")
    static void duchiesWithFaults() {
        EnemyBread e = three();
        String[] texts = {"", " ", "\n \n", "x", "loaf 0;", "loaf 5;house d flour 99 salt 9;feud d with d hate 1;",
            houses(7) + "famine 101;", "loaf 5;grows (((((((1)))))));", "loaf 5;grows 1;grows 1;"};
        int[] faults = {1, 1, 1, 1, 2, 3, 2, 4, 5};
        int[] places = {0, 1, 3, 0, 5, 43, houses(7).length() + 7, 19, 15};
        for (int i = 0; i < texts.length; i++) {
            put(e, texts[i]);
            refused(e, 1, "duchy() of " + texts[i], NONE, e::duchy);
            due("fault(0) of " + texts[i], e.fault(0), faults[i]);
            due("fault(1) of " + texts[i], e.fault(1), places[i]);
        }
        due("acts stay", e.undo(), true);
        due("rules stay", e.starves(2), 0);
    }

    @Says(in = "Promise 4", text = "Without one all is as at first, nothing is KEPT, SEEN or can be undone; the seed stays.")
    static void duchiesAnew() {
        EnemyBread e = three();
        e.seed(77);
        due("duchy()", put(e, houses(2) + "famine 50;").duchy(), 4);
        due("HOUSES", e.has(1), 2);
        due("there", e.has(3), 2);
        due("DAY", e.has(2), 0);
        due("feuds", e.has(4), 0);
        due("flour", e.house(0, 0), 20);
        due("hungry", e.house(1, 2), 0);
        due("KEPT", e.has(6), 0);
        due("kept(0, 0)", e.kept(0, 0), NONE);
        due("SEEN", e.has(7), 0);
        due("flour(0, 0)", e.flour(0, 0), 100);
        due("can be undone", e.has(8), 0);
        due("undo()", e.undo(), false);
        due("a third house", e.house(2, 0), NONE);
        // Nothing of one duchy comes back with a later one.
        String four = houses(4) + "feud a with b hate 9;";
        for (int i = 0; i < 3; i++) {
            due("duchy()", put(e, four).duchy(), 6);
            due("duchy() with a FAULT", put(e, houses(2) + "feud a with b hate 7;famine 99;x").duchy(), NONE);
            due("feuds", e.has(4), 1);
            due("hate", e.hate(0, 1), 9);
            due("duchy()", put(e, houses(2) + "famine 50;").duchy(), 4);
            due("feuds", e.has(4), 0);
            due("HOUSES", e.has(1), 2);
        }
        x = 77;
        for (int i = 0; i < 12; i++) {
            int famine = draw(100) < 50 ? 1 : 0;
            if (famine == 1) {
                draw(2);
            }
            due("famine by the seed that stays", e.chance(1), famine);
        }
    }

    @Says(in = "Promise 5", text = "Of the latest duchy() or ask(): its FAULT (what 0; 0 without, and ahead of any), its place (1; NONE without).")
    static void faults() {
        EnemyBread e = new EnemyBread();
        due("fault(0) ahead of any", e.fault(0), 0);
        due("fault(1) ahead of any", e.fault(1), NONE);
        put(e, "!").duchy();
        due("fault(0)", e.fault(0), 1);
        due("fault(1) of the first byte", e.fault(1), 0);
        put(e, "!").ask();
        due("fault(0): ask() without a duchy did nothing", e.fault(0), 1);
        put(e, "loaf 5;").duchy();
        due("fault(0) without", e.fault(0), 0);
        due("fault(1) without", e.fault(1), NONE);
        put(e, "total !").ask();
        due("fault(0) of ask()", e.fault(0), 1);
        due("fault(1) of ask()", e.fault(1), 6);
        put(e, "!").see();
        put(e, "!").on();
        due("fault(0) stays behind other calls", e.fault(0), 1);
        due("fault(1) stays behind other calls", e.fault(1), 6);
        put(e, "total 1").ask();
        due("fault(0) of ask() without", e.fault(0), 0);
        due("fault(1) of ask() without", e.fault(1), NONE);
    }

    @Says(in = "Promise 5", text = "NONE for another what.")
    static void otherFaults() {
        EnemyBread e = put(new EnemyBread(), "loaf 0;");
        e.duchy();
        for (int what : new int[] {-1, 2, Integer.MIN_VALUE, Integer.MAX_VALUE}) {
            due("fault(" + what + ")", e.fault(what), NONE);
        }
    }

    @Says(in = "Promise 6", text = "How many there are: 0 flour in a loaf, 1 HOUSES, 2 DAY, 3 HOUSES that are there, 4 feuds, 5 all flour of "
            + "those there, 6 what is told as KEPT, 7 rows SEEN, 8 ACTS that can be undone.")
    static void counts() {
        // a and b bake for one another in both DAYS; c is gone behind the first one.
        EnemyBread e = of(houses(3) + "feud a with b hate 4;feud b with c hate 1;starves salt=3;");
        e.days(2);
        put(e, 0, 0, 2, 1, 1, 255).see();
        // a: 20 - 4 - 4, b: the same, c, which is gone, has 20 still.
        int[] want = {5, 3, 2, 2, 1, 24, 4, 2, 1};
        for (int what = 0; what <= 8; what++) {
            due("has(" + what + ")", e.has(what), want[what]);
        }
        due("flour of one that is gone", e.house(2, 0), 20);
        EnemyBread full = at(houses(7), 999, new int[] {1, 99, 9, 1, 99, 9, 1, 99, 9, 1, 99, 9, 1, 99, 9, 1, 99, 9, 1, 99, 9},
                9, 9, 9, 9, 9, 9, 9, 9, 9, 9, 9, 9, 9, 9, 9, 9, 9, 9, 9, 9, 9);
        int[] most = {5, 7, 999, 7, 21, 693, 0, 0, 0};
        for (int what = 0; what <= 8; what++) {
            due("has(" + what + ")", full.has(what), most[what]);
        }
    }

    @Says(in = "Promise 6", text = "NONE for others.")
    static void otherCounts() {
        for (EnemyBread e : new EnemyBread[] {new EnemyBread(), three()}) {
            for (int what : new int[] {-1, 9, Integer.MIN_VALUE, Integer.MAX_VALUE}) {
                due("has(" + what + ")", e.has(what), NONE);
            }
        }
    }

    @Says(in = "Promise 7", text = "Letter k (0 .. 5) of the NAME of a HOUSE: 1 .. 26; 0 behind it;")
    static void letters() {
        EnemyBread e = of("loaf 5;house a flour 1 salt 1;house azbycx flour 1 salt 1;house z flour 1 salt 1;");
        int[][] want = {{1, 0, 0, 0, 0, 0}, {1, 26, 2, 25, 3, 24}, {26, 0, 0, 0, 0, 0}};
        for (int house = 0; house < 3; house++) {
            for (int k = 0; k < 6; k++) {
                due("letter(" + house + ", " + k + ")", e.letter(house, k), want[house][k]);
            }
        }
        put(e, "loaf 5;house zz flour 1 salt 1;house y flour 1 salt 1;").duchy();
        due("letter(1, 0) of another duchy", e.letter(1, 0), 25);
        due("letter(1, 1) of another duchy", e.letter(1, 1), 0);
        due("of one that is gone", at(houses(1), 0, new int[] {0, 0, 0}).letter(0, 0), 1);
    }

    @Says(in = "Promise 7", text = "NONE when there is none such.")
    static void noLetters() {
        EnemyBread e = three();
        for (int house : NO_HOUSES) {
            due("letter(" + house + ", 0)", e.letter(house, 0), NONE);
        }
        for (int k : new int[] {-1, 6, Integer.MIN_VALUE, Integer.MAX_VALUE}) {
            due("letter(0, " + k + ")", e.letter(0, k), NONE);
        }
        due("letter(0, 0) of a new object", new EnemyBread().letter(0, 0), NONE);
    }

    @Says(in = "Promise 8", text = "Of a HOUSE: 0 flour, 1 salt, 2 how hungry, 3 whether it is there, 4 how many ENEMIES.")
    static void ofAHouse() {
        EnemyBread e = at("loaf 5;house a flour 0 salt 9;house b flour 0 salt 0;house c flour 0 salt 5;", 0,
                new int[] {1, 99, 9, 1, 0, 0, 0, 7, 6}, 1, 0, 0);
        int[][] want = {{99, 9, 9, 1, 1}, {0, 0, 0, 1, 1}, {7, 5, 6, 0, 0}};
        for (int house = 0; house < 3; house++) {
            for (int what = 0; what < 5; what++) {
                due("house(" + house + ", " + what + ")", e.house(house, what), want[house][what]);
            }
        }
    }

    @Says(in = "Promise 8", text = "NONE when there is none such, or for others.")
    static void ofNoHouse() {
        EnemyBread e = three();
        for (int house : NO_HOUSES) {
            due("house(" + house + ", 0)", e.house(house, 0), NONE);
        }
        for (int what : new int[] {-1, 5, Integer.MIN_VALUE, Integer.MAX_VALUE}) {
            due("house(0, " + what + ")", e.house(0, what), NONE);
        }
    }

    @Says(in = "Promise 9", text = "The hate of a feud of two HOUSES now, 0 without;")
    static void hates() {
        EnemyBread e = of(houses(3) + "feud a with b hate 99;feud c with b hate 1;");
        due("hate(0, 1)", e.hate(0, 1), 99);
        due("hate(1, 0)", e.hate(1, 0), 99);
        due("hate(1, 2)", e.hate(1, 2), 1);
        due("hate(0, 2)", e.hate(0, 2), 0);
        due("hate(0, 2) of one that is gone", three().hate(0, 2), 0);
        e.feud(0, 2, 7);
        due("now", e.hate(2, 0), 7);
    }

    @Says(in = "Promise 9", text = "NONE when there are none such, or they are one.")
    static void noHates() {
        EnemyBread e = three();
        for (int house : NO_HOUSES) {
            due("hate(" + house + ", 0)", e.hate(house, 0), NONE);
            due("hate(0, " + house + ")", e.hate(0, house), NONE);
            due("hate(" + house + ", " + house + ")", e.hate(house, house), NONE);
        }
        for (int house = 0; house < 3; house++) {
            due("hate of one", e.hate(house, house), NONE);
        }
    }

    @Says(in = "Promise 10", text = "Who would bake for a HOUSE in the next DAY (at DAY 999, too);")
    static void bakers() {
        due("baker(0)", of(PAIR).baker(0), 1);
        for (int day : new int[] {0, 998, 999}) {
            EnemyBread e = at(PAIR, day, new int[] {1, 5, 0, 1, 5, 0}, 4);
            due("baker(0) at DAY " + day, e.baker(0), 1);
            due("baker(1) at DAY " + day, e.baker(1), 0);
            due("flour stays", e.house(0, 0), 5);
            due("DAY stays", e.has(2), day);
            due("nothing is KEPT", e.has(6), 0);
        }
    }

    @Says(in = "Promise 10", text = "NONE when nobody would, it is not there, or there is none such.")
    static void noBakers() {
        due("without an enemy", of(houses(2)).baker(0), NONE);
        due("without flour", at(PAIR, 0, new int[] {1, 20, 0, 1, 4, 0}, 4).baker(0), NONE);
        EnemyBread e = three();
        due("one that is not there", e.baker(2), NONE);
        for (int house : NO_HOUSES) {
            due("baker(" + house + ")", e.baker(house), NONE);
        }
        due("of a new object", new EnemyBread().baker(0), NONE);
    }

    @Says(in = "Promise 11", text = "How a loaf would TASTE now that one HOUSE bakes for another one;")
    static void taste() {
        EnemyBread e = at(PAIR + "tastes flour+hunger*10;", 0, new int[] {1, 0, 1, 1, 3, 2}, 4);
        due("taste(0, 1), without flour", e.taste(0, 1), 20);
        due("taste(1, 0), without flour", e.taste(1, 0), 13);
        due("at DAY 999", at(PAIR, 999, new int[] {1, 0, 1, 1, 3, 2}, 4).taste(1, 0), 2);
        due("below 0", of(PAIR + "tastes 0-1;").taste(1, 0), 0);
        due("above 99", of(PAIR + "tastes 100;").taste(1, 0), 99);
    }

    @Says(in = "Promise 11", text = "NONE when they are no ENEMIES, or there are none such.")
    static void noTaste() {
        EnemyBread e = three();
        due("one that is gone", e.taste(0, 2), NONE);
        due("one that is gone", e.taste(2, 0), NONE);
        due("without a feud", of(houses(2)).taste(0, 1), NONE);
        due("one alone", e.taste(0, 0), NONE);
        for (int house : NO_HOUSES) {
            due("taste(" + house + ", 0)", e.taste(house, 0), NONE);
            due("taste(0, " + house + ")", e.taste(0, house), NONE);
        }
    }

    @Says(in = "Promise 12", text = "Of what is told as KEPT, the k-th from the oldest on: 0 DAY, 1 who baked, 2 who ate, 3 how it TASTED.")
    static void kept() {
        EnemyBread e = at(PAIR, 998, new int[] {1, 20, 0, 1, 20, 0}, 4);
        e.days(1);
        int[][] want = {{998, 1, 0, 2}, {998, 0, 1, 1}};
        for (int k = 0; k < 2; k++) {
            for (int what = 0; what < 4; what++) {
                due("kept(" + k + ", " + what + ")", e.kept(k, what), want[k][what]);
            }
        }
        EnemyBread seven = of(houses(7) + "feud g with f hate 1;tastes 99;");
        seven.days(1);
        due("kept(0, 1)", seven.kept(0, 1), 6);
        due("kept(0, 2)", seven.kept(0, 2), 5);
        due("kept(1, 1)", seven.kept(1, 1), 5);
        due("kept(1, 2)", seven.kept(1, 2), 6);
        due("kept(1, 3)", seven.kept(1, 3), 99);
    }

    @Says(in = "Promise 12", text = "NONE when there is none such, or for others.")
    static void notKept() {
        EnemyBread e = three();
        due("has(6)", e.has(6), 4);
        due("kept(3, 0)", e.kept(3, 0), 1);
        for (int k : new int[] {-1, 4, 40, Integer.MIN_VALUE, Integer.MAX_VALUE}) {
            due("kept(" + k + ", 0)", e.kept(k, 0), NONE);
        }
        for (int what : new int[] {-1, 4, Integer.MIN_VALUE, Integer.MAX_VALUE}) {
            due("kept(0, " + what + ")", e.kept(0, what), NONE);
        }
        due("of a new object", new EnemyBread().kept(0, 0), NONE);
        EnemyBread full = of(PAIR + "grows 9;");
        full.days(50);
        due("kept(39, 0)", full.kept(39, 0), 49);
        due("kept(40, 0)", full.kept(40, 0), NONE);
    }

    @Says(in = "Promise 13", text = "Of a HOUSE behind n DAYS AHEAD (0 .. 60): 0 flour, 1 how hungry, 2 whether it is there.")
    static void later() {
        EnemyBread e = of("loaf 5;house a flour 3 salt 0;starves day=59;");
        due("later(0, 0, 0)", e.later(0, 0, 0), 3);
        due("later(0, 0, 1)", e.later(0, 0, 1), 0);
        due("later(0, 0, 2)", e.later(0, 0, 2), 1);
        due("later(0, 1, 1)", e.later(0, 1, 1), 1);
        due("later(0, 59, 0)", e.later(0, 59, 0), 62);
        due("later(0, 59, 2)", e.later(0, 59, 2), 1);
        due("later(0, 60, 0) of one that is gone", e.later(0, 60, 0), 62);
        due("later(0, 60, 1) of one that is gone", e.later(0, 60, 1), 9);
        due("later(0, 60, 2)", e.later(0, 60, 2), 0);
        due("nothing passes", e.has(2), 0);
        EnemyBread last = at(houses(1), 999, new int[] {1, 20, 3});
        due("now, at DAY 999", last.later(0, 0, 1), 3);
        due("of one that is gone now", three().later(2, 5, 0), three().house(2, 0));
    }

    @Says(in = "Promise 13", text = "NONE when there is none such, n can't be, or for others.")
    static void notLater() {
        EnemyBread e = three();
        for (int house : NO_HOUSES) {
            due("later(" + house + ", 0, 0)", e.later(house, 0, 0), NONE);
        }
        for (int n : new int[] {-1, 61, Integer.MIN_VALUE, Integer.MAX_VALUE}) {
            due("later(0, " + n + ", 0)", e.later(0, n, 0), NONE);
        }
        for (int what : new int[] {-1, 3, Integer.MIN_VALUE, Integer.MAX_VALUE}) {
            due("later(0, 0, " + what + ")", e.later(0, 0, what), NONE);
        }
        EnemyBread late = at(houses(1), 997, new int[] {1, 20, 0});
        due("to DAY 999", late.later(0, 2, 0), 22);
        due("beyond DAY 999", late.later(0, 3, 0), NONE);
    }

    @Says(in = "Promise 14", text = "The hate of two HOUSES behind n DAYS AHEAD (0 .. 60), 0 without;")
    static void cooled() {
        EnemyBread e = of(houses(3) + "feud a with b hate 61;cools hate-1;");
        due("cooled(0, 1, 0)", e.cooled(0, 1, 0), 61);
        due("cooled(1, 0, 1)", e.cooled(1, 0, 1), 60);
        due("cooled(0, 1, 60)", e.cooled(0, 1, 60), 1);
        due("cooled(0, 2, 60)", e.cooled(0, 2, 60), 0);
        EnemyBread over = of(PAIR + "cools hate-1;");
        due("cooled(0, 1, 3)", over.cooled(0, 1, 3), 1);
        due("cooled(0, 1, 4)", over.cooled(0, 1, 4), 0);
        due("cooled(0, 1, 60)", over.cooled(0, 1, 60), 0);
        due("of one that is gone", three().cooled(0, 2, 0), 0);
    }

    @Says(in = "Promise 14", text = "NONE when there are none such, they are one, or n can't be.")
    static void notCooled() {
        EnemyBread e = three();
        for (int house : NO_HOUSES) {
            due("cooled(" + house + ", 0, 0)", e.cooled(house, 0, 0), NONE);
            due("cooled(0, " + house + ", 0)", e.cooled(0, house, 0), NONE);
        }
        due("cooled(1, 1, 0)", e.cooled(1, 1, 0), NONE);
        for (int n : new int[] {-1, 61, Integer.MIN_VALUE, Integer.MAX_VALUE}) {
            due("cooled(0, 1, " + n + ")", e.cooled(0, 1, n), NONE);
        }
        EnemyBread late = at(PAIR, 997, new int[] {1, 20, 0, 1, 20, 0}, 4);
        due("to DAY 999", late.cooled(0, 1, 2), 4);
        due("beyond DAY 999", late.cooled(0, 1, 3), NONE);
    }

    @Says(in = "Promise 15", text = "In the how manieth DAY AHEAD (0 the next one, 59 at most) a HOUSE starves;")
    static void starves() {
        due("the next one", of(houses(1) + "starves all;").starves(0), 0);
        due("59", of(houses(1) + "starves day=59;").starves(0), 59);
        due("60", of(houses(1) + "starves day=60;").starves(0), NONE);
        due("from now on", at(houses(1) + "starves day=60;", 1, new int[] {1, 20, 0}).starves(0), 59);
        due("in the last DAY", at(houses(1) + "starves day=998;", 990, new int[] {1, 20, 0}).starves(0), 8);
        due("behind the last DAY", at(houses(1) + "starves day=999;", 990, new int[] {1, 20, 0}).starves(0), NONE);
        due("at DAY 999", at(houses(1) + "starves all;", 999, new int[] {1, 20, 0}).starves(0), NONE);
    }

    @Says(in = "Promise 15", text = "NONE when it does not, is not there, or there is none such.")
    static void starvesNot() {
        due("it does not", of(houses(1) + "starves not all;").starves(0), NONE);
        EnemyBread e = three();
        due("one that is not there", e.starves(2), NONE);
        for (int house : NO_HOUSES) {
            due("starves(" + house + ")", e.starves(house), NONE);
        }
        due("of a new object", new EnemyBread().starves(0), NONE);
    }

    @Says(in = "Promise 16", text = "A TABLE: how many eat (what 0), with how much hate (1), who bakes for the HOUSE of number k "
            + "(what 2 + k; NONE nobody, it is not there).")
    static void tables() {
        EnemyBread e = of(houses(7) + "feud f with g hate 99;");
        int[] want = {2, 198, NONE, NONE, NONE, NONE, NONE, 6, 5};
        for (int what = 0; what < want.length; what++) {
            due("table(" + what + ")", e.table(what), want[what]);
        }
        due("of one that is not there", three().table(4), NONE);
        due("at DAY 999", at(PAIR, 999, new int[] {1, 5, 0, 1, 5, 0}, 4).table(0), 2);
    }

    @Says(in = "Promise 16", text = "NONE when there is none such, or without a duchy.")
    static void noTables() {
        EnemyBread e = of(PAIR);
        due("table(3)", e.table(3), 0);
        for (int what : new int[] {-1, 4, 5, 9, Integer.MIN_VALUE, Integer.MAX_VALUE}) {
            due("table(" + what + ")", e.table(what), NONE);
        }
        due("without houses", of("loaf 5;").table(2), NONE);
        for (int what = -1; what < 4; what++) {
            due("without a duchy", new EnemyBread().table(what), NONE);
        }
    }

    @Says(in = "Promise 17", text = "WANTING: how many (k NONE), the k-th pair: 8 times its less number and its other one.")
    static void wanting() {
        EnemyBread e = of(houses(6));
        due("how many", e.wanting(NONE), 3);
        due("the first", e.wanting(0), 8 * 0 + 1);
        due("the second", e.wanting(1), 8 * 2 + 3);
        due("the third", e.wanting(2), 8 * 4 + 5);
        EnemyBread late = of(houses(7) + "feud a with b hate 1;feud b with c hate 1;feud a with c hate 1;feud d with e hate 1;");
        due("how many", late.wanting(NONE), 1);
        due("the first", late.wanting(0), 8 * 5 + 6);
        due("none", of(PAIR).wanting(NONE), 0);
    }

    @Says(in = "Promise 17", text = "NONE when 3 are not enough, there is none such, or without a duchy.")
    static void notWanting() {
        EnemyBread five = of(houses(5));
        EnemyBread three = of(houses(3));
        for (int k = -1; k < 4; k++) {
            due("3 are not enough", five.wanting(k), NONE);
            due("without a duchy", new EnemyBread().wanting(k), NONE);
        }
        due("wanting(2)", three.wanting(2), 10);
        for (int k : new int[] {-2, 3, Integer.MIN_VALUE, Integer.MAX_VALUE}) {
            due("wanting(" + k + ")", three.wanting(k), NONE);
        }
        due("of none", of(PAIR).wanting(0), NONE);
    }

    @Says(in = "Promise 18", text = "SPARED, n DAYS AHEAD (1 .. 20): how many (k NONE), the k-th pair: 8 times its less number and its other one.")
    static void spared() {
        EnemyBread e = of(houses(7) + "feud g with f hate 1;feud e with a hate 1;starves day=19;");
        due("in 1", e.spared(1, NONE), 2);
        due("the first", e.spared(1, 0), 8 * 0 + 4);
        due("the second", e.spared(1, 1), 8 * 5 + 6);
        due("in 20", e.spared(20, NONE), 2);
        // Without a feud b, which alone may starve, is 7 hungry behind 7 DAYS, 20 hungry (9) behind 20.
        EnemyBread need = of("loaf 1;house a flour 99 salt 0;house b flour 0 salt 1;feud a with b hate 1;"
                + "starves hunger>6 and salt=1;");
        due("in 6", need.spared(6, NONE), 1);
        due("in 7", need.spared(7, NONE), 0);
        due("in 20", need.spared(20, NONE), 0);
    }

    @Says(in = "Promise 18", text = "NONE when there are more than 10 feuds, there is none such, n can't be, or without a duchy.")
    static void notSpared() {
        StringBuilder ten = new StringBuilder(houses(5));
        for (char c = 'a'; c <= 'e'; c++) {
            for (char d = (char) (c + 1); d <= 'e'; d++) {
                ten.append("feud ").append(c).append(" with ").append(d).append(" hate 1;");
            }
        }
        EnemyBread e = of(ten + "house f flour 1 salt 1;");
        due("10", e.spared(1, NONE), 10);
        e.feud(0, 5, 1);
        due("11", e.spared(1, NONE), NONE);
        due("the first of 11", e.spared(1, 0), NONE);
        e.undo();
        due("spared(1, 9)", e.spared(1, 9), 28);
        for (int k : new int[] {-2, 10, 11, Integer.MIN_VALUE, Integer.MAX_VALUE}) {
            due("spared(1, " + k + ")", e.spared(1, k), NONE);
        }
        for (int n : new int[] {-1, 0, 21, Integer.MIN_VALUE, Integer.MAX_VALUE}) {
            due("spared(" + n + ", NONE)", e.spared(n, NONE), NONE);
        }
        EnemyBread late = at(PAIR, 997, new int[] {1, 20, 0, 1, 20, 0}, 4);
        due("to DAY 999", late.spared(2, NONE), 1);
        due("beyond DAY 999", late.spared(3, NONE), NONE);
        due("without a duchy", new EnemyBread().spared(1, NONE), NONE);
    }

    @Says(in = "Promise 19", text = "At REST, n DAYS AHEAD (1 .. 20), as bits;")
    static void rest() {
        due("in 1", of(PAIR).rest(1), 0);
        due("in 20", of(PAIR).rest(20), 0);
        due("without houses", of("loaf 5;").rest(20), 0);
        // As in the terms: behind 4 DAYS a is 1 hungry, 0 if it rests. Here a is the fifth house.
        due("the fifth house", of("loaf 9;house u flour 0 salt 0;house v flour 0 salt 0;house w flour 0 salt 0;"
                + "house x flour 0 salt 0;house a flour 0 salt 0;house b flour 0 salt 1;feud a with b hate 2;"
                + "grows hunger*3;").rest(4), 16);
    }

    @Says(in = "Promise 19", text = "NONE when no set is, n can't be, or without a duchy.")
    static void noRest() {
        // Flour above 18 starves, so who does not bake may be gone: the model has tried all sixteen sets.
        EnemyBread none = of("loaf 9;house a flour 18 salt 2;house b flour 18 salt 0;house c flour 9 salt 1;"
                + "house d flour 9 salt 2;feud a with c hate 7;feud a with d hate 1;feud c with d hate 2;"
                + "grows hunger*3;cools 9-hate-loaves;bakes 0-flour;starves flour>18 or hunger>4;");
        due("no set is", none.rest(4), NONE);
        EnemyBread e = of(PAIR);
        for (int n : new int[] {-1, 0, 21, Integer.MIN_VALUE, Integer.MAX_VALUE}) {
            due("rest(" + n + ")", e.rest(n), NONE);
        }
        EnemyBread late = at(PAIR, 997, new int[] {1, 20, 0, 1, 20, 0}, 4);
        due("to DAY 999", late.rest(2), 0);
        due("beyond DAY 999", late.rest(3), NONE);
        due("without a duchy", new EnemyBread().rest(1), NONE);
    }

    @Says(in = "Promise 20", text = "The tape (it goes) tells what is SEEN, 1 to 16 rows of three bytes: how many rows;")
    static void see() {
        EnemyBread e = three();
        due("1", put(e, 30, 2, 255).see(), 1);
        due("the tape goes", e.end(1), false);
        due("has(7)", e.has(7), 1);
        due("16", put(e, new int[48]).see(), 16);
        due("has(7)", e.has(7), 16);
        due("2, those ahead are none any more", put(e, 0, 0, 255, 0, 1, 99).see(), 2);
        due("has(7)", e.has(7), 2);
    }

    @Says(in = "Promise 20", text = "NONE, refused (1), all staying, when it is none such.")
    static void seesNot() {
        EnemyBread e = three();
        int[][] rows = {{}, {0}, {0, 0}, {0, 0, 0, 0}, {0, 0, 0, 0, 0}, new int[47], new int[49], new int[51],
            {31, 0, 0}, {255, 0, 0}, {0, 3, 0}, {0, 255, 0}, {0, 0, 100}, {0, 0, 254}, {0, 0, 0, 0, 0, 0, 31, 0, 0},
            {0, 0, 0, 0, 3, 0}, {0, 0, 0, 0, 0, 200}};
        for (int[] row : rows) {
            put(e, row);
            refused(e, 1, "see() of " + row.length + " bytes", NONE, e::see);
            due("the tape goes", e.end(1), false);
        }
        due("what was SEEN is SEEN", e.has(7), 1);
        EnemyBread none = put(new EnemyBread(), 0, 0, 0);
        refused(none, 1, "see() without houses", NONE, none::see);
    }

    @Says(in = "Promise 21", text = "FLOUR of a HOUSE that is there by what is SEEN (all, if nothing is; DAYS beyond 999 are by none):")
    static void flour() {
        EnemyBread e = of(PAIR + "tastes flour;");
        due("all", e.flour(0, 0), 100);
        due("all, at DAY 999", at(PAIR, 999, new int[] {1, 20, 0, 1, 20, 0}, 4).flour(0, 0), 100);
        put(e, 0, 1, 33).see();
        due("by what b tastes", e.flour(0, 1), 33);
        due("b itself tastes nothing of its own flour", e.flour(1, 0), 0);
        int[] full = {1, 20, 0, 1, 20, 0};
        EnemyBread last = at(PAIR + "tastes 7;grows 9;", 968, full, 4);
        put(last, 30, 1, 7).see();
        due("DAY 998", last.flour(0, 0), 100);
        due("on()", put(last, image(969, full, 4)).on(), true);
        due("DAY 999 and beyond", last.flour(0, 0), 0);
        put(last, 29, 1, 7).see();
        due("DAY 998", last.flour(0, 0), 100);
        put(last, 0, 1, 7, 30, 1, 7).see();
        due("one row of two beyond", last.flour(0, 0), 0);
        put(last, image(999, full, 4)).on();
        put(last, 0, 1, 255).see();
        due("none eaten, beyond", last.flour(0, 0), 0);
    }

    @Says(in = "Promise 21", text = "how many numbers (what 0), the least, the greatest (1, 2; NONE without).")
    static void leastFlour() {
        EnemyBread e = of(PAIR + "tastes flour/10;");
        put(e, 0, 1, 9).see();
        int[] want = {10, 90, 99};
        for (int what = 0; what < 3; what++) {
            due("flour(0, " + what + ")", e.flour(0, what), want[what]);
        }
        put(e, 0, 1, 0).see();
        int[] low = {5, 5, 9};
        for (int what = 0; what < 3; what++) {
            due("flour(0, " + what + ")", e.flour(0, what), low[what]);
        }
        put(e, 0, 1, 10).see();
        int[] none = {0, NONE, NONE};
        for (int what = 0; what < 3; what++) {
            due("flour(0, " + what + ") without", e.flour(0, what), none[what]);
        }
    }

    @Says(in = "Promise 21", text = "NONE when there is none such, or for others.")
    static void noFlour() {
        EnemyBread e = three();
        for (int what = 0; what < 3; what++) {
            due("of one that is not there", e.flour(2, what), NONE);
        }
        for (int house : NO_HOUSES) {
            due("flour(" + house + ", 0)", e.flour(house, 0), NONE);
        }
        for (int what : new int[] {-1, 3, Integer.MIN_VALUE, Integer.MAX_VALUE}) {
            due("flour(0, " + what + ")", e.flour(0, what), NONE);
        }
        due("of a new object", new EnemyBread().flour(0, 0), NONE);
    }

    @Says(in = "Promise 22", text = "TELLING for a HOUSE that is there: the DAY AHEAD (what 0), the HOUSE (1), how many numbers are left "
            + "at the most (2).")
    static void tells() {
        EnemyBread e = of(PAIR + "tastes flour/10;grows 0;");
        int[] want = {0, 1, 10};
        for (int what = 0; what < 3; what++) {
            due("tells(0, " + what + ")", e.tells(0, what), want[what]);
        }
        put(e, 0, 1, 3).see();
        // 30 to 39 are left, 25 to 34 in the next DAY but one.
        int[] left = {1, 1, 5};
        for (int what = 0; what < 3; what++) {
            due("tells(0, " + what + ")", e.tells(0, what), left[what]);
        }
        due("at DAY 998", at(PAIR, 998, new int[] {1, 20, 0, 1, 20, 0}, 4).tells(0, 2), 95);
    }

    @Says(in = "Promise 22", text = "NONE without any, when no DAY comes, there is none such, or for others.")
    static void tellsNot() {
        EnemyBread any = of(PAIR);
        put(any, 0, 1, 99).see();
        EnemyBread last = at(PAIR, 999, new int[] {1, 20, 0, 1, 20, 0}, 4);
        EnemyBread e = three();
        for (int what = 0; what < 3; what++) {
            due("without any", any.tells(0, what), NONE);
            due("when no DAY comes", last.tells(0, what), NONE);
            due("of one that is not there", e.tells(2, what), NONE);
        }
        for (int house : NO_HOUSES) {
            due("tells(" + house + ", 0)", e.tells(house, 0), NONE);
        }
        for (int what : new int[] {-1, 3, Integer.MIN_VALUE, Integer.MAX_VALUE}) {
            due("tells(0, " + what + ")", e.tells(0, what), NONE);
        }
        due("of a new object", new EnemyBread().tells(0, 0), NONE);
    }

    @Says(in = "Promise 23", text = "Two HOUSES have a feud of a hate (0 .. 99; 0 none): true;")
    static void feud() {
        EnemyBread e = of(houses(3));
        for (int hate : new int[] {1, 99, 0, 50}) {
            due("feud(2, 0, " + hate + ")", e.feud(2, 0, hate), true);
            due("hate(0, 2)", e.hate(0, 2), hate);
            due("hate(2, 0)", e.hate(2, 0), hate);
            due("feuds", e.has(4), hate > 0 ? 1 : 0);
        }
        due("acts", e.has(8), 4);
        due("at DAY 999", at(PAIR, 999, new int[] {1, 20, 0, 1, 20, 0}, 4).feud(0, 1, 5), true);
    }

    @Says(in = "Promise 23", text = "false, refused (2), when it is that, one is not there, they are one, there are none such, or for others.")
    static void noFeud() {
        EnemyBread e = three();
        refused(e, 2, "it is that", () -> e.feud(0, 1, 4));
        refused(e, 2, "it is that", () -> e.feud(1, 0, 4));
        refused(e, 2, "one is not there", () -> e.feud(0, 2, 4));
        refused(e, 2, "one is not there", () -> e.feud(2, 1, 4));
        refused(e, 2, "it is none, of one that is not there", () -> e.feud(2, 1, 0));
        refused(e, 2, "they are one", () -> e.feud(1, 1, 4));
        for (int house : NO_HOUSES) {
            refused(e, 2, "there are none such", () -> e.feud(house, 0, 4));
            refused(e, 2, "there are none such", () -> e.feud(0, house, 4));
        }
        for (int hate : new int[] {-1, 100, Integer.MIN_VALUE, Integer.MAX_VALUE}) {
            refused(e, 2, "for others", () -> e.feud(0, 1, hate));
        }
        e.feud(0, 1, 0);
        refused(e, 2, "it is none", () -> e.feud(0, 1, 0));
        EnemyBread none = new EnemyBread();
        refused(none, 2, "of a new object", () -> none.feud(0, 1, 1));
    }

    @Says(in = "Promise 24", text = "A HOUSE has so much flour (0 .. 99): true;")
    static void bring() {
        EnemyBread e = of(houses(2));
        for (int flour : new int[] {0, 99, 1}) {
            due("bring(1, " + flour + ")", e.bring(1, flour), true);
            due("house(1, 0)", e.house(1, 0), flour);
            due("house(0, 0)", e.house(0, 0), 20);
        }
        due("acts", e.has(8), 3);
        due("at DAY 999", at(houses(1), 999, new int[] {1, 20, 0}).bring(0, 5), true);
    }

    @Says(in = "Promise 24", text = "false, refused (2), when it has that, is not there, there is none such, or for others.")
    static void noBring() {
        EnemyBread e = three();
        refused(e, 2, "it has that", () -> e.bring(0, e.house(0, 0)));
        refused(e, 2, "it is not there", () -> e.bring(2, 50));
        for (int house : NO_HOUSES) {
            refused(e, 2, "there is none such", () -> e.bring(house, 50));
        }
        for (int flour : new int[] {-1, 100, Integer.MIN_VALUE, Integer.MAX_VALUE}) {
            refused(e, 2, "for others", () -> e.bring(0, flour));
        }
        EnemyBread none = new EnemyBread();
        refused(none, 2, "of a new object", () -> none.bring(0, 1));
    }

    @Says(in = "Promise 25", text = "n DAYS (1 .. 100): how many loaves;")
    static void days() {
        EnemyBread e = of(PAIR + "grows 5;");
        due("days(1)", e.days(1), 2);
        due("DAY", e.has(2), 1);
        due("days(100)", e.days(100), 200);
        due("DAY", e.has(2), 101);
        due("acts", e.has(8), 2);
        due("without houses", of("loaf 5;").days(100), 0);
        EnemyBread famine = of(PAIR + "famine 100;");
        due("no famine comes", famine.days(1), 2);
        due("flour", famine.house(0, 0) + famine.house(1, 0), 32);
        due("to DAY 999", at(PAIR, 899, new int[] {1, 20, 0, 1, 20, 0}, 4).days(100) > 0, true);
    }

    @Says(in = "Promise 25", text = "NONE, refused (3), when it can't be, or without a duchy.")
    static void noDays() {
        EnemyBread e = three();
        for (int n : new int[] {-1, 0, 101, Integer.MIN_VALUE, Integer.MAX_VALUE}) {
            refused(e, 3, "days(" + n + ")", NONE, () -> e.days(n));
        }
        EnemyBread late = at(PAIR, 900, new int[] {1, 20, 0, 1, 20, 0}, 4);
        refused(late, 3, "days(100) beyond DAY 999", NONE, () -> late.days(100));
        EnemyBread last = at(PAIR, 999, new int[] {1, 20, 0, 1, 20, 0}, 4);
        refused(last, 3, "days(1) beyond DAY 999", NONE, () -> last.days(1));
        EnemyBread none = new EnemyBread();
        refused(none, 3, "days(1) without a duchy", NONE, () -> none.days(1));
    }

    @Says(in = "Promise 26", text = "n DAYS by the seed (1 .. 100), one ACT: how many famines;")
    static void chance() {
        EnemyBread fed = of(PAIR);
        due("chance(2)", fed.chance(2), 0);
        due("loaves", fed.has(6), 4);
        due("flour", fed.house(0, 0), 12);
        EnemyBread e = of(PAIR + "famine 50;");
        x = 1;
        int famines = 0;
        for (int d = 0; d < 101; d++) {
            if (draw(100) < 50) {
                draw(2);
                famines++;
            }
            if (d == 0) {
                due("chance(1)", e.chance(1), famines);
                famines = 0;
            }
        }
        due("chance(100)", e.chance(100), famines);
        due("DAY", e.has(2), 101);
        due("acts", e.has(8), 2);
        due("undo()", e.undo(), true);
        due("DAY", e.has(2), 1);
        due("to DAY 999", at(PAIR, 899, new int[] {1, 20, 0, 1, 20, 0}, 4).chance(100), 0);
    }

    @Says(in = "Promise 26", text = "NONE, refused (3), when it can't be, or without a duchy.")
    static void noChance() {
        EnemyBread e = of(PAIR + "famine 50;");
        for (int n : new int[] {-1, 0, 101, Integer.MIN_VALUE, Integer.MAX_VALUE}) {
            refused(e, 3, "chance(" + n + ")", NONE, () -> e.chance(n));
        }
        x = 1;
        due("no DRAW is taken", e.chance(1), draw(100) < 50 ? 1 : 0);
        EnemyBread late = at(PAIR, 900, new int[] {1, 20, 0, 1, 20, 0}, 4);
        refused(late, 3, "chance(100) beyond DAY 999", NONE, () -> late.chance(100));
        EnemyBread last = at(PAIR, 999, new int[] {1, 20, 0, 1, 20, 0}, 4);
        refused(last, 3, "chance(1) beyond DAY 999", NONE, () -> last.chance(1));
        EnemyBread none = new EnemyBread();
        refused(none, 3, "chance(1) without a duchy", NONE, () -> none.chance(1));
    }

    @Says(in = "Promise 27", text = "The latest ACT is undone (the seed stays): true;")
    static void undo() {
        EnemyBread e = three();
        String before = all(e);
        e.feud(0, 1, 0);
        due("a feud", e.undo(), true);
        must("all is as ahead of it", all(e).equals(before));
        e.bring(0, 99);
        due("flour", e.undo(), true);
        must("all is as ahead of it", all(e).equals(before));
        e.days(100);
        due("DAYS", e.undo(), true);
        must("all is as ahead of it", all(e).equals(before));
        e.chance(100);
        due("DAYS by the seed", e.undo(), true);
        must("all is as ahead of it", all(e).equals(before));
        EnemyBread seed = of(PAIR + "famine 50;");
        x = 1;
        for (int i = 0; i < 12; i++) {
            int famine = draw(100) < 50 ? 1 : 0;
            if (famine == 1) {
                draw(2);
            }
            due("the seed stays", seed.chance(1), famine);
            due("undo()", seed.undo(), true);
        }
        e.undo();
        due("SEEN stays", e.has(7), 1);
    }

    @Says(in = "Promise 27", text = "false, refused (4), when none can be.")
    static void noUndo() {
        EnemyBread none = new EnemyBread();
        refused(none, 4, "undo() of a new object", none::undo);
        EnemyBread e = of(PAIR);
        refused(e, 4, "undo() without an ACT", e::undo);
        e.bring(0, 1);
        due("undo()", e.undo(), true);
        refused(e, 4, "undo() of all", e::undo);
        e.bring(0, 1);
        put(e, image(3, new int[] {1, 9, 0, 1, 9, 0}, 4)).on();
        refused(e, 4, "undo() behind on()", e::undo);
        e.bring(0, 1);
        put(e, PAIR).duchy();
        refused(e, 4, "undo() behind duchy()", e::undo);
        for (int i = 0; i < 21; i++) {
            e.bring(0, i % 2);
        }
        for (int i = 0; i < 20; i++) {
            due("undo()", e.undo(), true);
        }
        refused(e, 4, "undo() of a 21st", e::undo);
    }

    @Says(in = "Promise 28", text = "The seed: true; false, refused (5), when it is below 0.")
    static void seed() {
        EnemyBread e = of(PAIR + "famine 50;");
        for (int seed : new int[] {0, 1, Integer.MAX_VALUE}) {
            due("seed(" + seed + ")", e.seed(seed), true);
            refused(e, 5, "seed(-1)", () -> e.seed(-1));
            refused(e, 5, "seed(min)", () -> e.seed(Integer.MIN_VALUE));
            x = seed;
            for (int i = 0; i < 8; i++) {
                int famine = draw(100) < 50 ? 1 : 0;
                if (famine == 1) {
                    draw(2);
                }
                due("famine by seed " + seed, e.chance(1), famine);
            }
        }
        due("ahead of a duchy, too", new EnemyBread().seed(5), true);
        EnemyBread none = new EnemyBread();
        refused(none, 5, "seed(-1)", () -> none.seed(-1));
    }

    @Says(in = "Promise 28", text = "(It is 1 at first.)")
    static void firstSeed() {
        EnemyBread first = of(PAIR + "famine 50;");
        EnemyBread one = of(PAIR + "famine 50;");
        one.seed(1);
        x = 1;
        for (int i = 0; i < 12; i++) {
            int famine = draw(100) < 50 ? 1 : 0;
            if (famine == 1) {
                draw(2);
            }
            due("famine of a new object", first.chance(1), famine);
            due("famine by seed 1", one.chance(1), famine);
        }
    }

    @Says(in = "Promise 29", text = "The tape (it goes) is a QUESTION: its answer;")
    static void ask() {
        EnemyBread e = three();
        String before = all(e);
        asks(e, "often all", 2);
        due("the tape goes", e.end(1), false);
        due("with a FAULT", put(e, "often").ask(), NOTHING);
        due("the tape goes, too", e.end(1), false);
        due("of an empty tape", e.ask(), NOTHING);
        must("all stays", all(e).equals(before));
        asks(e, "total 1" + "+1".repeat(796), 1594);
        asks(e, "most " + " ".repeat(1594) + "1", 1);
    }

    @Says(in = "Promise 29", text = "NONE of first, last, when its TEST holds for none;")
    static void askNone() {
        EnemyBread e = three();
        asks(e, "first not all", NONE);
        asks(e, "last not all", NONE);
        asks(e, "first salt=3", NONE);
        asks(e, "last salt=3", NONE);
        asks(e, "first salt=1", 0);
        asks(e, "last salt=1", 0);
        asks(e, "often not all", 0);
        asks(of("loaf 5;"), "first all", NONE);
        asks(of("loaf 5;"), "last all", NONE);
    }

    @Says(in = "Promise 29", text = "NOTHING with a FAULT, or, doing nothing else, without a duchy.")
    static void askNothing() {
        EnemyBread none = put(new EnemyBread(), "often all");
        due("without a duchy", none.ask(), NOTHING);
        due("fault(0)", none.fault(0), 0);
        due("with a FAULT, too", put(none, "x").ask(), NOTHING);
        due("fault(0)", none.fault(0), 0);
        due("fault(1)", none.fault(1), NONE);
        put(none, "loaf 0;").duchy();
        due("behind a duchy with a FAULT", put(none, "often all").ask(), NOTHING);
        due("fault(0) of duchy()", none.fault(0), 2);
        due("fault(1) of duchy()", none.fault(1), 5);
        EnemyBread e = three();
        int[] before = statuses(e);
        due("with a FAULT", put(e, "often alls").ask(), NOTHING);
        due("fault(0)", e.fault(0), 1);
        due("fault(1)", e.fault(1), 6);
        for (int what = 0; what < 6; what++) {
            due("none is refused", e.status(what), before[what]);
        }
    }

    @Says(in = "Promise 30", text = "AN IMAGE is written: how many bytes.")
    static void image() {
        due("without a duchy", new EnemyBread().image(), 3);
        int[] bytes = {3, 6, 10, 15, 21, 28, 36, 45};
        for (int n = 0; n < 8; n++) {
            due(n + " houses", of(houses(n)).image(), bytes[n]);
        }
    }

    @Says(in = "Promise 31", text = "Byte k of the latest image();")
    static void octet() {
        EnemyBread e = of(PAIR);
        e.image();
        int[] want = withLast(0, 0, 1, 20, 0, 1, 20, 0, 4, 0);
        e.bring(0, 99);
        e.days(3);
        put(e, "loaf 9;").duchy();
        for (int k = 0; k < 10; k++) {
            due("octet(" + k + ") of the one ahead", e.octet(k), want[k]);
        }
        e.image();
        due("octet(2)", e.octet(2), 89);
        due("octet(3)", e.octet(3), NONE);
    }

    @Says(in = "Promise 31", text = "NONE when there is none such.")
    static void noOctet() {
        EnemyBread e = of(houses(7));
        due("ahead of any", e.octet(0), NONE);
        e.image();
        due("octet(44)", e.octet(44) >= 0, true);
        for (int k : new int[] {-1, 45, Integer.MIN_VALUE, Integer.MAX_VALUE}) {
            due("octet(" + k + ")", e.octet(k), NONE);
        }
    }

    @Says(in = "Promise 32", text = "The tape (it goes) is AN IMAGE of this DUCHY:")
    static void imageOfThis() {
        EnemyBread e = of(houses(7) + "feud a with g hate 1;feud f with g hate 99;grows 0;");
        e.days(9);
        int[] bytes = new int[e.image()];
        for (int k = 0; k < bytes.length; k++) {
            bytes[k] = e.octet(k);
        }
        due("bytes", bytes.length, 45);
        e.days(50);
        e.feud(0, 1, 50);
        due("on()", put(e, bytes).on(), true);
        due("the tape goes", e.end(1), false);
        due("image()", e.image(), 45);
        for (int k = 0; k < bytes.length; k++) {
            due("octet(" + k + ")", e.octet(k), bytes[k]);
        }
        EnemyBread six = put(of(houses(6)), bytes);
        due("of a duchy with seven houses", six.on(), false);
        due("the tape goes", six.end(1), false);
    }

    @Says(in = "Promise 32", text = "true, all is as it tells, nothing is KEPT or can be undone;")
    static void on() {
        EnemyBread e = three();
        due("on()", put(e, image(999, new int[] {1, 99, 9, 0, 0, 0, 1, 1, 1}, 0, 99, 0)).on(), true);
        due("the tape goes", e.end(1), false);
        due("DAY", e.has(2), 999);
        due("one that is there", e.house(0, 3), 1);
        due("one that is gone now", e.house(1, 3), 0);
        due("one that is there again", e.house(2, 3), 1);
        due("flour", e.house(0, 0), 99);
        due("hungry", e.house(0, 2), 9);
        due("flour of one that is gone", e.house(1, 0), 0);
        due("hate", e.hate(0, 2), 99);
        due("hate of one that is gone", e.hate(0, 1), 0);
        due("nothing is KEPT", e.has(6), 0);
        due("kept(0, 0)", e.kept(0, 0), NONE);
        due("nothing can be undone", e.has(8), 0);
        due("undo()", e.undo(), false);
        due("one that is gone with flour", put(e, image(0, new int[] {0, 99, 9, 0, 99, 9, 0, 99, 9}, 0, 0, 0)).on(), true);
        due("there", e.has(3), 0);
        due("none is refused", e.status(5), 0);
        due("without houses", put(of("loaf 5;"), 3, 231, (3 * ((3 * 233 + 3) % 251) + 231) % 251).on(), true);
    }

    @Says(in = "Promise 32", text = "false, refused (5), when it is none (DAY 999, flour, hate 99, hunger 9, flags 1 at most; hate 0 of one that "
            + "is not there), or without a duchy, all staying.")
    static void notOn() {
        EnemyBread e = three();
        int[][] bad = {
            image(1000, new int[] {1, 9, 0, 1, 9, 0, 1, 9, 0}, 1, 1, 1),
            image(65535, new int[] {1, 9, 0, 1, 9, 0, 1, 9, 0}, 1, 1, 1),
            image(0, new int[] {1, 100, 0, 1, 9, 0, 1, 9, 0}, 1, 1, 1),
            image(0, new int[] {1, 9, 0, 1, 9, 0, 1, 255, 0}, 1, 1, 1),
            image(0, new int[] {0, 100, 0, 1, 9, 0, 1, 9, 0}, 0, 0, 1),
            image(0, new int[] {1, 9, 0, 1, 9, 0, 1, 9, 0}, 100, 1, 1),
            image(0, new int[] {1, 9, 0, 1, 9, 0, 1, 9, 0}, 1, 1, 255),
            image(0, new int[] {1, 9, 10, 1, 9, 0, 1, 9, 0}, 1, 1, 1),
            image(0, new int[] {1, 9, 0, 1, 9, 0, 0, 9, 10}, 1, 0, 0),
            image(0, new int[] {2, 9, 0, 1, 9, 0, 1, 9, 0}, 1, 1, 1),
            image(0, new int[] {1, 9, 0, 1, 9, 0, 255, 9, 0}, 1, 0, 0),
            image(0, new int[] {2, 9, 0, 1, 9, 0, 1, 9, 0}, 0, 0, 1),
            image(0, new int[] {0, 9, 0, 1, 9, 0, 1, 9, 0}, 1, 0, 1),
            image(0, new int[] {1, 9, 0, 0, 9, 0, 1, 9, 0}, 1, 1, 0),
            image(0, new int[] {1, 9, 0, 1, 9, 0, 0, 9, 0}, 1, 1, 0),
            image(0, new int[] {0, 9, 0, 0, 9, 0, 1, 9, 0}, 1, 0, 0),
            image(0, new int[] {1, 9, 0, 1, 9, 0}, 1),
            image(0, new int[] {1, 9, 0, 1, 9, 0, 1, 9, 0, 1, 9, 0}, 1, 1, 1, 1, 1, 1),
            image(0, new int[] {1, 9, 0, 1, 9, 0, 1, 9, 0}, 1, 1),
            image(0, new int[] {1, 9, 0, 1, 9, 0, 1, 9, 0}, 1, 1, 1, 1),
            image(0, new int[] {}), {}, {0}};
        for (int i = 0; i < bad.length; i++) {
            put(e, bad[i]);
            refused(e, 5, "on() of image " + i, e::on);
            due("the tape goes", e.end(1), false);
        }
        int[] good = image(0, new int[] {1, 9, 0, 1, 9, 0, 1, 9, 0}, 1, 1, 1);
        for (int last = 0; last < 256; last += 5) {
            if (last != good[good.length - 1]) {
                int[] other = good.clone();
                other[good.length - 1] = last;
                put(e, other);
                refused(e, 5, "on() of another last byte", e::on);
            }
        }
        due("on()", put(e, good).on(), true);
        EnemyBread none = put(new EnemyBread(), 0, 0, 89);
        refused(none, 5, "on() without a duchy", none::on);
        due("the tape goes", none.end(1), false);
    }

    @Says(in = "Promise 33", text = "How many were refused: 0 feed(), end(); 1 duchy(), see(); 2 feud(), bring(); 3 days(), chance(); 4 undo(); "
            + "5 seed(), on().")
    static void status() {
        EnemyBread e = new EnemyBread();
        for (int what = 0; what < 6; what++) {
            due("status(" + what + ")", e.status(what), 0);
        }
        refused(e, 0, "end(1)", () -> e.end(1));
        refused(e, 1, "duchy()", NONE, e::duchy);
        refused(e, 1, "see()", NONE, e::see);
        refused(e, 2, "feud()", () -> e.feud(0, 1, 1));
        refused(e, 2, "bring()", () -> e.bring(0, 1));
        refused(e, 3, "days()", NONE, () -> e.days(1));
        refused(e, 3, "chance()", NONE, () -> e.chance(1));
        refused(e, 4, "undo()", e::undo);
        refused(e, 5, "seed()", () -> e.seed(-1));
        refused(e, 5, "on()", e::on);
        for (int i = 0; i < 80; i++) {
            e.feed(0, 0, 0, 0, 0);
        }
        refused(e, 0, "feed()", NONE, () -> e.feed(0, 0, 0, 0, 0));
        e.ask();
        e.table(0);
        e.later(9, 9, 9);
        int[] want = {2, 2, 2, 2, 1, 2};
        put(e, PAIR).duchy();
        for (int what = 0; what < 6; what++) {
            due("status(" + what + "), behind a duchy, too", e.status(what), want[what]);
        }
    }

    @Says(in = "Promise 33", text = "NONE for others.")
    static void otherStatus() {
        for (int what : new int[] {-1, 6, Integer.MIN_VALUE, Integer.MAX_VALUE}) {
            due("status(" + what + ")", new EnemyBread().status(what), NONE);
        }
    }

    public static void main(String[] args) throws Exception {
        String[] promises = new String[33];
        for (int i = 0; i < 33; i++) {
            promises[i] = "Promise " + (i + 1);
        }
        run(PromiseBoundaryTest.class, args, promises);
    }
}
