/** Each promise of the document by hand: ordinary inputs, the edges that it names, wrong inputs. */
public final class PromiseTest extends Calls {
    private static final String TWO = "loaf 5;house a flour 20 salt 3;house b flour 12 salt 1;feud a with b hate 30;";
    private static final String FOUR = "loaf 5;house a flour 20 salt 1;house b flour 20 salt 2;house c flour 20 salt 3;"
            + "house d flour 20 salt 4;feud a with b hate 10;feud b with c hate 20;feud c with d hate 30;"
            + "feud a with d hate 40;";

    private static int wrong;
    private static int checks;
    private static int promise;

    private static void due(String call, long got, long want) {
        checks++;
        if (got != want) {
            wrong++;
            System.out.println("promise " + promise + ": " + call + " answered " + got + ", due is " + want);
        }
    }

    private static void due(String call, boolean got, boolean want) {
        due(call, got ? 1 : 0, want ? 1 : 0);
    }

    private static EnemyBread of(String s) {
        EnemyBread x = put(new EnemyBread(), s);
        if (x.duchy() < 1) {
            due("duchy() of " + s + " with fault " + x.fault(0) + " at " + x.fault(1), NONE, 1);
        }
        return x;
    }

    private static void faulty(String s, int kind, int place) {
        EnemyBread x = of(TWO);
        due("duchy() of " + s, put(x, s).duchy(), NONE);
        due("fault(0) of " + s, x.fault(0), kind);
        due("fault(1) of " + s, x.fault(1), place);
        due("status(1)", x.status(1), 1);
        due("has(1), all staying", x.has(1), 2);
    }

    private static void fine(String s, int statements) {
        EnemyBread x = put(new EnemyBread(), s);
        due("duchy() of " + s, x.duchy(), statements);
        due("fault(0) of " + s, x.fault(0), 0);
        due("fault(1) of " + s, x.fault(1), NONE);
    }

    private static void asks(EnemyBread x, String s, long answer) {
        due("ask() of " + s, put(x, s).ask(), answer);
        due("fault(0) of " + s, x.fault(0), 0);
        due("fault(1) of " + s, x.fault(1), NONE);
    }

    private static void asksFaulty(String s, int kind, int place) {
        EnemyBread x = of(FOUR);
        due("ask() of " + s, put(x, s).ask(), NOTHING);
        due("fault(0) of " + s, x.fault(0), kind);
        due("fault(1) of " + s, x.fault(1), place);
    }

    private static String times(String s, int n) {
        return s.repeat(n);
    }

    private static void aNewObject() {
        EnemyBread x = new EnemyBread();
        for (int what = 0; what <= 8; what++) {
            due("has(" + what + ")", x.has(what), 0);
        }
        due("house(0, 0)", x.house(0, 0), NONE);
        due("feed of a new tape", x.feed(0, 0, 0, 0, 0), 20);
        due("NONE", EnemyBread.NONE, -1);
        due("NOTHING", EnemyBread.NOTHING, -1000000000000000L);
    }

    private static void feed() {
        EnemyBread x = new EnemyBread();
        for (int i = 1; i <= 80; i++) {
            due("feed " + i, x.feed(i, -1, 0, 7, 9), 20 * i);
        }
        due("feed 81", x.feed(1, 2, 3, 4, 5), NONE);
        due("status(0)", x.status(0), 1);
        due("end(1600)", x.end(1600), true);
        due("end(1581)", x.end(1581), true);
        due("feed behind 1581", x.feed(1, 2, 3, 4, 5), NONE);
        due("end(1580)", x.end(1580), true);
        due("feed behind 1580", x.feed(1, 2, 3, 4, 5), 1600);
        EnemyBread y = of(TWO);
        y.feed(0x00010203, 0x04050607, 0, 0, 0xff000000);
        y.end(18);
        due("see() of three bytes a row, the highest first", y.see(), NONE);
        y.feed(0x1e006300, 0x01ff0000, 0, 0, 0);
        y.end(6);
        due("see()", y.see(), 2);
    }

    private static void end() {
        EnemyBread x = new EnemyBread();
        due("end(0)", x.end(0), true);
        due("end(1)", x.end(1), false);
        due("end(-1)", x.end(-1), false);
        due("status(0)", x.status(0), 2);
        x.feed(1, 2, 3, 4, 5);
        due("end(21)", x.end(21), false);
        due("end(20)", x.end(20), true);
        due("end(19)", x.end(19), true);
        due("end(20) behind", x.end(20), false);
        due("end(min)", x.end(Integer.MIN_VALUE), false);
        due("end(max)", x.end(Integer.MAX_VALUE), false);
        due("feed behind 19", x.feed(1, 2, 3, 4, 5), 39);
        due("status(0)", x.status(0), 6);
    }

    private static void duchyThatIsFine() {
        fine("loaf 1;", 1);
        fine("loaf 20;", 1);
        fine("\n loaf \n0005 ; ", 1);
        fine(TWO, 4);
        fine("loaf 5;famine 0;famine 100;", 3);
        fine("loaf 5;house first flour 0 salt 0;house often flour 99 salt 9;feud often with first hate 99;", 4);
        fine("loaf 5;house abcdef flour 1 salt 1;", 2);
        fine("loaf 5;bakes hate+flour*salt-hunger/day;tastes min(hate,max(flour,9999));cools hate-loaves-day;"
                + "grows flour+salt+hunger+day;starves all;", 6);
        fine("loaf 5;starves not[flour<1 or salt>2 and not hunger=3];", 2);
        fine("loaf 5;starves not not not not not not all;", 2);
        fine("loaf 5;grows((((((1))))));", 2);
        fine("loaf 5;grows((((((1))))))+((((((1))))));", 2);
        fine("loaf 5;starves not all and not all and [not all] or [[[[[[all]]]]]];", 2);
        fine("loaf 5;" + times("famine 1;", 59) + " \n ", 60);
        fine("loaf 5;grows 1" + times("*1", 792) + " ;", 2);
        String seven = "loaf 5;";
        for (char c = 'a'; c < 'h'; c++) {
            seven += "house " + c + " flour 1 salt 1;";
        }
        fine(seven, 8);
        faulty(seven + "house h", 5, seven.length());
    }

    private static void duchyWithFaults() {
        faulty("", 1, 0);
        faulty("  \n", 1, 3);
        faulty(";", 1, 0);
        faulty("loaf 5;;", 1, 7);
        faulty("house a flour 1 salt 1;", 1, 0);
        faulty("loa", 1, 0);
        faulty("loafs 5;", 1, 0);
        faulty("LOAF 5;", 1, 0);
        faulty("loaf5;", 1, 4);
        faulty("loaf 5", 1, 6);
        faulty("loaf 5  ", 1, 8);
        faulty("loaf", 1, 4);
        faulty("loaf ;", 1, 5);
        faulty("loaf 0;", 2, 5);
        faulty("loaf 21;", 2, 5);
        faulty("loaf 0021;", 2, 5);
        faulty("loaf 12345;", 1, 9);
        faulty("loaf 00001;", 1, 9);
        faulty("loaf 5 5;", 1, 7);
        faulty("loaf 5;loaf 5;", 1, 7);
        faulty("loaf 5;\tfamine 1;", 1, 7);
        faulty("loaf 5;first all;", 1, 7);
        faulty("loaf 5;house A flour 1 salt 1;", 1, 13);
        faulty("loaf 5;house a1 flour 1 salt 1;", 1, 14);
        faulty("loaf 5;house day flour 1 salt 1;", 1, 13);
        faulty("loaf 5;house starves flour 1 salt 1;", 1, 13);
        faulty("loaf 5;house abcdefgh flour 1 salt 1;", 1, 19);
        faulty("loaf 5;house ", 1, 13);
        faulty("loaf 5;house a salt", 1, 15);
        faulty("loaf 5;house a flour 100 salt 1;", 2, 21);
        faulty("loaf 5;house a flour 99salt 1;", 1, 23);
        faulty("loaf 5;house a flour 99 salt 10;", 2, 29);
        faulty("loaf 5;house a flour x salt 10;", 1, 21);
        faulty(TWO + "house b", 3, TWO.length() + 6);
        faulty(TWO + "feud c with a hate 1;", 3, TWO.length() + 5);
        faulty(TWO + "feud a with c hate 1;", 3, TWO.length() + 12);
        faulty(TWO + "feud a with a hate 1;", 3, TWO.length() + 12);
        faulty(TWO + "feud b with a hate 1;", 3, TWO.length() + 12);
        faulty(TWO + "feud loaf with a hate 1;", 1, TWO.length() + 5);
        faulty(TWO + "feud abcdefg", 1, TWO.length() + 11);
        String three = TWO + "house c flour 1 salt 1;";
        faulty(three + "feud a with c hate 0;", 2, three.length() + 19);
        faulty(three + "feud a with c hate 100;", 2, three.length() + 19);
        faulty("loaf 5;famine 101;", 2, 14);
        String least = three + "feud a with c hate 1;";
        faulty(least + "feud c with a hate 1;", 3, least.length() + 12);
        faulty("loaf 5;" + times("famine 1;", 59) + " !", 5, 7 + 59 * 9 + 1);
        faulty("loaf 5;" + times("famine 1;", 60), 5, 7 + 59 * 9);
        for (String kind : new String[] {"bakes 1", "tastes 1", "starves all", "cools 1", "grows 1"}) {
            faulty("loaf 5;" + kind + "; " + kind + ";", 5, 7 + kind.length() + 2);
        }
    }

    private static void sumsWithFaults() {
        faulty("loaf 5;bakes loaves;", 1, 13);
        faulty("loaf 5;tastes number;", 1, 14);
        faulty("loaf 5;starves hate>1;", 1, 15);
        faulty("loaf 5;starves day;", 1, 18);
        faulty("loaf 5;starves day>;", 1, 19);
        faulty("loaf 5;starves (day>1);", 1, 19);
        faulty("loaf 5;starves [day>1);", 1, 21);
        faulty("loaf 5;starves all all;", 1, 19);
        faulty("loaf 5;starves 2and all;", 1, 16);
        faulty("loaf 5;cools flour;", 1, 13);
        faulty("loaf 5;grows hate;", 1, 13);
        faulty("loaf 5;grows feuds;", 1, 13);
        faulty("loaf 5;grows day2;", 1, 16);
        faulty("loaf 5;grows all;", 1, 13);
        faulty("loaf 5;grows -1;", 1, 13);
        faulty("loaf 5;grows 1+;", 1, 15);
        faulty("loaf 5;grows 12345;", 1, 17);
        faulty("loaf 5;grows day 12345;", 1, 17);
        faulty("loaf 5;grows min 1;", 1, 17);
        faulty("loaf 5;grows min(1;", 1, 18);
        faulty("loaf 5;grows min(1,2,3);", 1, 20);
        faulty("loaf 5;grows max(1,2", 1, 20);
        faulty("loaf 5;grows 1 grows 1;", 1, 15);
        faulty("loaf 5;starves not not not not not not not all;", 4, 39);
        faulty("loaf 5;grows (((((( (1)))))));", 4, 20);
        faulty("loaf 5;grows ((((((min(1,2)))))));", 4, 22);
        faulty("loaf 5;starves [[[not [(( day)) > 1]]]];", 4, 24);
        faulty("loaf 5;starves not not not [[[min(1,2)>1]]];", 4, 33);
    }

    private static void duchyThatBeginsAnew() {
        EnemyBread x = of(TWO);
        x.seed(77);
        x.days(3);
        x.bring(0, 50);
        put(x, 0, 0, 255).see();
        due("duchy()", put(x, TWO).duchy(), 4);
        due("day", x.has(2), 0);
        due("flour", x.house(0, 0), 20);
        due("hunger", x.house(0, 2), 0);
        due("KEPT", x.has(6), 0);
        due("SEEN", x.has(7), 0);
        due("ACTS", x.has(8), 0);
        due("undo()", x.undo(), false);
        x.days(2);
        due("duchy() with a FAULT", put(x, "loaf").duchy(), NONE);
        due("day stays", x.has(2), 2);
        due("KEPT stays", x.has(6), 4);
        due("the tape goes", x.end(1), false);
        // The seed stays: of 77 the first draws of 100 are told by hand from the rule in II.
        EnemyBread y = put(new EnemyBread(), TWO + "famine 100;");
        y.seed(77);
        due("duchy()", y.duchy(), 5);
        y.chance(1);
        EnemyBread z = of(TWO + "famine 100;");
        z.seed(77);
        z.chance(1);
        due("flour by the same seed", y.house(0, 0), z.house(0, 0));
        due("flour by the same seed", y.house(1, 0), z.house(1, 0));
    }

    private static void fault() {
        EnemyBread x = new EnemyBread();
        due("fault(0) ahead of any", x.fault(0), 0);
        due("fault(1) ahead of any", x.fault(1), NONE);
        due("fault(2)", x.fault(2), NONE);
        due("fault(-1)", x.fault(-1), NONE);
        put(x, "loaf 0;").duchy();
        due("fault(0)", x.fault(0), 2);
        due("fault(1)", x.fault(1), 5);
        due("fault(2)", x.fault(2), NONE);
        due("ask() without a duchy", put(x, "often all").ask(), NOTHING);
        due("fault(0) stays", x.fault(0), 2);
        due("fault(1) stays", x.fault(1), 5);
        put(x, TWO).duchy();
        due("fault(0) without", x.fault(0), 0);
        due("fault(1) without", x.fault(1), NONE);
        put(x, "often").ask();
        due("fault(0) of ask()", x.fault(0), 1);
        due("fault(1) of ask()", x.fault(1), 5);
        put(x, "often all").ask();
        due("fault(0) of ask() without", x.fault(0), 0);
        due("fault(1) of ask() without", x.fault(1), NONE);
    }

    private static void has() {
        EnemyBread x = of(FOUR + "starves hunger>0 and salt=4;");
        due("loaf", x.has(0), 5);
        due("houses", x.has(1), 4);
        due("feuds", x.has(4), 4);
        due("flour", x.has(5), 80);
        x.feud(2, 3, 0);
        x.feud(0, 3, 0);
        due("feuds", x.has(4), 2);
        due("acts", x.has(8), 2);
        // d has no enemy, is hungry, and is gone: a, b eat of one another, c of b or b of c.
        x.days(1);
        due("houses", x.has(1), 4);
        due("day", x.has(2), 1);
        due("there", x.has(3), 3);
        due("acts", x.has(8), 3);
        due("flour of those there", x.has(5), x.house(0, 0) + x.house(1, 0) + x.house(2, 0));
        put(x, 0, 0, 9, 1, 1, 255).see();
        due("seen", x.has(7), 2);
        due("kept", x.has(6), 3 - (x.house(2, 2)));
        due("has(9)", x.has(9), NONE);
        due("has(-1)", x.has(-1), NONE);
    }

    private static void letter() {
        EnemyBread x = of("loaf 5;house az flour 1 salt 1;house zyxabc flour 1 salt 1;");
        int[] az = {1, 26, 0, 0, 0, 0};
        int[] zyxabc = {26, 25, 24, 1, 2, 3};
        for (int k = 0; k < 6; k++) {
            due("letter(0, " + k + ")", x.letter(0, k), az[k]);
            due("letter(1, " + k + ")", x.letter(1, k), zyxabc[k]);
        }
        due("letter(0, 6)", x.letter(0, 6), NONE);
        due("letter(0, -1)", x.letter(0, -1), NONE);
        due("letter(2, 0)", x.letter(2, 0), NONE);
        due("letter(-1, 0)", x.letter(-1, 0), NONE);
        due("letter(max, 0)", x.letter(Integer.MAX_VALUE, 0), NONE);
    }

    private static void house() {
        EnemyBread x = of("loaf 20;house a flour 19 salt 9;house b flour 40 salt 0;feud a with b hate 1;starves hunger>1;");
        due("flour", x.house(0, 0), 19);
        due("salt", x.house(0, 1), 9);
        due("there", x.house(0, 3), 1);
        due("enemies", x.house(0, 4), 1);
        x.days(1);
        // b bakes for a; a has not enough: b is hungry; then flour grows by 1.
        due("flour of a", x.house(0, 0), 20);
        due("flour of b", x.house(1, 0), 21);
        due("hunger of a", x.house(0, 2), 0);
        due("hunger of b", x.house(1, 2), 1);
        x.bring(0, 0);
        x.days(1);
        due("b is gone", x.house(1, 3), 0);
        due("hunger of b stays", x.house(1, 2), 2);
        due("flour of b does not grow", x.house(1, 0), 1);
        due("enemies of a", x.house(0, 4), 0);
        due("house(0, 5)", x.house(0, 5), NONE);
        due("house(0, -1)", x.house(0, -1), NONE);
        due("house(2, 0)", x.house(2, 0), NONE);
        due("house(-1, 0)", x.house(-1, 0), NONE);
    }

    private static void hate() {
        EnemyBread x = of(FOUR);
        due("hate(0, 1)", x.hate(0, 1), 10);
        due("hate(1, 0)", x.hate(1, 0), 10);
        due("hate(3, 0)", x.hate(3, 0), 40);
        due("hate(0, 2)", x.hate(0, 2), 0);
        due("hate(2, 2)", x.hate(2, 2), NONE);
        due("hate(0, 4)", x.hate(0, 4), NONE);
        due("hate(-1, 0)", x.hate(-1, 0), NONE);
    }

    private static void baker() {
        EnemyBread x = of(FOUR);
        // By most hate: d for a (40), c for b (20), then b for c (d has baked; b 20), a for d (40).
        due("baker(0)", x.baker(0), 3);
        due("baker(1)", x.baker(1), 2);
        due("baker(2)", x.baker(2), 1);
        due("baker(3)", x.baker(3), 0);
        due("baker(4)", x.baker(4), NONE);
        due("baker(-1)", x.baker(-1), NONE);
        due("all stays", x.house(3, 0), 20);
        x.bring(3, 4);
        due("baker(0) without flour for a loaf", x.baker(0), 1);
        x.bring(3, 5);
        due("baker(0) with just enough", x.baker(0), 3);
        EnemyBread like = of(FOUR + "bakes 7;");
        due("of like ones the first", like.baker(0), 1);
        EnemyBread by = of("loaf 5;house a flour 20 salt 1;house b flour 20 salt 2;house c flour 21 salt 3;"
                + "feud a with b hate 9;feud a with c hate 1;bakes 0-flour*hate;");
        due("the flour of the one that bakes", by.baker(0), 2);
        EnemyBread eater = of("loaf 5;house a flour 20 salt 1;house b flour 20 salt 2;house c flour 20 salt 3;"
                + "feud a with b hate 9;feud a with c hate 1;bakes salt*(1-hunger);");
        due("the hunger of the one that eats: 0", eater.baker(0), 2);
        put(eater, image(0, new int[] {1, 20, 2, 1, 20, 0, 1, 20, 0}, 9, 1, 0)).on();
        due("the hunger of the one that eats: 2", eater.baker(0), 1);
        put(eater, image(999, new int[] {1, 20, 0, 1, 20, 0, 1, 20, 0}, 9, 1, 0)).on();
        due("at DAY 999, too", eater.baker(0), 2);
        put(eater, image(0, new int[] {0, 20, 0, 1, 20, 0, 1, 20, 0}, 0, 0, 5)).on();
        due("one that is not there", eater.baker(0), NONE);
    }

    private static void taste() {
        EnemyBread x = of(FOUR);
        due("salt of the one that bakes", x.taste(1, 0), 2);
        due("taste(0, 1)", x.taste(0, 1), 1);
        due("no ENEMIES", x.taste(0, 2), NONE);
        due("one alone", x.taste(0, 0), NONE);
        due("taste(4, 0)", x.taste(4, 0), NONE);
        due("taste(0, -1)", x.taste(0, -1), NONE);
        x.bring(1, 0);
        due("without flour", x.taste(1, 0), 2);
        due("above 99", of(FOUR + "tastes 100;").taste(0, 1), 99);
        due("below 0", of(FOUR + "tastes 1-2;").taste(0, 1), 0);
        due("a product of 10 to the 6", of(FOUR + "tastes 9999*9999-9999*100-50;").taste(0, 1), 50);
        due("a sum of 10 to the 6", of(FOUR + "tastes 9999*100+9999*100-9999*100-50;").taste(0, 1), 50);
        due("a difference of -10 to the 6", of(FOUR + "tastes 0-9999*9999-9999+9999*100+150;").taste(0, 1), 50);
        due("a product of -10 to the 6", of(FOUR + "tastes (0-9999)*9999+9999*100+150;").taste(0, 1), 50);
        due("just 10 to the 6", of(FOUR + "tastes (1000*1000+1-1000*1000)*50+(9999*100+99-9999*100);").taste(0, 1), 99);
        due("from the left", of(FOUR + "tastes 100-50-20/3*2;").taste(0, 1), 38);
        due("not above", of(FOUR + "tastes 10+(0-7)/2;").taste(0, 1), 6);
        due("not above, both below 0", of(FOUR + "tastes (0-7)/(0-2);").taste(0, 1), 3);
        due("by 0", of(FOUR + "tastes 7+9/(3-3);").taste(0, 1), 7);
        due("min, max", of(FOUR + "tastes min(7,9)*10+max(3,1);").taste(0, 1), 73);
        due("day, flour, hunger, hate", of(FOUR + "tastes day+flour*2+hunger+hate;").taste(0, 1), 50);
    }

    private static void kept() {
        EnemyBread x = of(TWO + "tastes salt+hunger*10+day*20;");
        due("kept(0, 0)", x.kept(0, 0), NONE);
        due("loaves", x.days(2), 4);
        int[][] rows = {{0, 1, 0, 1}, {0, 0, 1, 3}, {1, 1, 0, 21}, {1, 0, 1, 23}};
        for (int k = 0; k < rows.length; k++) {
            for (int what = 0; what < 4; what++) {
                due("kept(" + k + ", " + what + ")", x.kept(k, what), rows[k][what]);
            }
        }
        due("kept(4, 0)", x.kept(4, 0), NONE);
        due("kept(-1, 0)", x.kept(-1, 0), NONE);
        due("kept(0, 4)", x.kept(0, 4), NONE);
        due("kept(0, -1)", x.kept(0, -1), NONE);
        EnemyBread y = of(TWO + "grows 9;");
        y.days(19);
        due("38 loaves", y.has(6), 38);
        y.days(2);
        due("40 are told", y.has(6), 40);
        due("the oldest told", y.kept(0, 0), 1);
        due("the latest", y.kept(39, 0), 20);
        y.undo();
        due("as ahead of the ACT", y.has(6), 38);
        due("the oldest again", y.kept(0, 0), 0);
    }

    private static void later() {
        EnemyBread x = of("loaf 20;house a flour 19 salt 9;house b flour 40 salt 0;feud a with b hate 1;starves hunger>1;");
        due("now", x.later(0, 0, 0), 19);
        due("flour behind 1", x.later(1, 1, 0), 21);
        due("hunger behind 1", x.later(1, 1, 1), 1);
        due("there behind 1", x.later(1, 1, 2), 1);
        // In the second day a has 20 and bakes for b.
        due("hunger behind 2", x.later(1, 2, 1), 0);
        due("there behind 60", x.later(1, 60, 2), 0);
        due("all stays", x.has(2), 0);
        due("61", x.later(1, 61, 0), NONE);
        due("-1", x.later(1, -1, 0), NONE);
        due("what 3", x.later(1, 1, 3), NONE);
        due("what -1", x.later(1, 1, -1), NONE);
        due("house 2", x.later(2, 1, 0), NONE);
        put(x, image(998, new int[] {1, 19, 0, 1, 40, 0}, 1)).on();
        due("to DAY 999", x.later(1, 1, 0), 21);
        due("beyond DAY 999", x.later(1, 2, 0), NONE);
        put(x, image(999, new int[] {1, 19, 0, 1, 40, 0}, 1)).on();
        due("at DAY 999 now", x.later(1, 0, 0), 40);
        due("at DAY 999 then", x.later(1, 1, 0), NONE);
        EnemyBread y = of("loaf 1;house a flour 90 salt 5;house b flour 3 salt 0;starves day>50;grows salt*day-hunger*2;");
        due("99 at most", y.later(0, 9, 0), 99);
        due("0 at least", y.later(1, 4, 0), 0);
        due("9 at most", y.later(1, 50, 1), 9);
        due("grows by what is then", y.later(0, 1, 0), 88);
        due("there until DAY 50", y.later(0, 51, 2), 1);
        due("gone in DAY 51", y.later(0, 52, 2), 0);
    }

    private static void cooled() {
        EnemyBread x = of(TWO + "cools hate-loaves*10+day;");
        due("now", x.cooled(0, 1, 0), 30);
        due("two loaves", x.cooled(1, 0, 1), 10);
        due("below 0 it is over", x.cooled(0, 1, 2), 0);
        due("over is over", x.cooled(0, 1, 9), 0);
        EnemyBread y = of(TWO + "cools hate*2;");
        due("99 at most", y.cooled(0, 1, 2), 99);
        due("one alone", y.cooled(0, 0, 1), NONE);
        due("none such", y.cooled(0, 2, 1), NONE);
        due("none such", y.cooled(-1, 1, 1), NONE);
        due("61", y.cooled(0, 1, 61), NONE);
        due("-1", y.cooled(0, 1, -1), NONE);
        due("60", y.cooled(0, 1, 60), 99);
        due("no feud", of(FOUR).cooled(0, 2, 5), 0);
        put(y, image(990, new int[] {1, 99, 0, 1, 99, 0}, 7)).on();
        due("to DAY 999", y.cooled(0, 1, 9), 99);
        due("beyond", y.cooled(0, 1, 10), NONE);
    }

    private static void starves() {
        EnemyBread x = of("loaf 5;house a flour 5 salt 0;house b flour 0 salt 0;feud a with b hate 1;grows 0;");
        due("never fed", x.starves(0), 5);
        due("fed once", x.starves(1), 6);
        due("none such", x.starves(2), NONE);
        due("none such", x.starves(-1), NONE);
        x.days(6);
        due("gone", x.starves(0), NONE);
        due("the next one", x.starves(1), 0);
        due("at 59", of("loaf 1;house a flour 0 salt 0;starves day>58;").starves(0), 59);
        due("beyond 59", of("loaf 1;house a flour 0 salt 0;starves day>59;").starves(0), NONE);
        EnemyBread y = of("loaf 1;house a flour 0 salt 0;starves day=998;");
        put(y, image(998, new int[] {1, 0, 0})).on();
        due("in the last DAY", y.starves(0), 0);
        EnemyBread z = of("loaf 1;house a flour 0 salt 0;starves day>998;");
        put(z, image(990, new int[] {1, 0, 0})).on();
        due("behind the last DAY", z.starves(0), NONE);
        due("not, or, and", of("loaf 1;house a flour 0 salt 0;starves not day<3 and not [salt=1 or day<4];").starves(0), 4);
        due("and binds more", of("loaf 1;house a flour 0 salt 0;starves day=2 or day=0 and salt=1;").starves(0), 2);
    }

    private static void table() {
        EnemyBread x = of(FOUR);
        // a-b and c-d twice each: 80; by the ring 10+20+30+40 = 100; a-d, b-c: 120.
        int[] row = {4, 80, 1, 0, 3, 2};
        for (int what = 0; what < row.length; what++) {
            due("table(" + what + ")", x.table(what), row[what]);
        }
        due("table(6)", x.table(6), NONE);
        due("table(-1)", x.table(-1), NONE);
        due("table(max)", x.table(Integer.MAX_VALUE), NONE);
        x.bring(1, 4);
        // b bakes not: three eat at most; who is hungry first: nobody for a, if it costs no more.
        due("three eat", x.table(0), 3);
        due("without b", x.table(3) != 1 && x.table(2) != 1 && x.table(4) != 1, true);
        due("least hate", x.table(1), 70);
        int[] less = {NONE, 0, 3, 2};
        for (int h = 0; h < 4; h++) {
            due("table(" + (2 + h) + ")", x.table(2 + h), less[h]);
        }
        EnemyBread y = of("loaf 5;house a flour 9 salt 1;house b flour 9 salt 1;house c flour 0 salt 1;"
                + "feud a with c hate 5;feud b with c hate 5;");
        due("one eats", y.table(0), 1);
        due("of like ones the first", y.table(4), 0);
        due("nobody", y.table(2), NONE);
        EnemyBread empty = of("loaf 5;");
        due("without houses", empty.table(0), 0);
        due("without houses", empty.table(1), 0);
        due("without houses", empty.table(2), NONE);
        due("without a duchy", new EnemyBread().table(0), NONE);
    }

    private static void wanting() {
        EnemyBread x = of(FOUR);
        due("none", x.wanting(NONE), 0);
        due("no such pair", x.wanting(0), NONE);
        x.feud(0, 1, 0);
        x.feud(2, 3, 0);
        x.feud(0, 3, 0);
        // b-c is left: a-d, or a-b with c-d: one is enough.
        due("one", x.wanting(NONE), 1);
        due("a-d", x.wanting(0), 3);
        due("no second", x.wanting(1), NONE);
        x.feud(1, 2, 0);
        due("two", x.wanting(NONE), 2);
        due("a-b", x.wanting(0), 1);
        due("c-d", x.wanting(1), 8 * 2 + 3);
        due("wanting(-2)", x.wanting(-2), NONE);
        x.bring(0, 4);
        due("who can't bake", x.wanting(NONE), NONE);
        due("who can't bake", x.wanting(0), NONE);
        EnemyBread five = of("loaf 1;house a flour 9 salt 0;house b flour 9 salt 0;house c flour 9 salt 0;"
                + "house d flour 9 salt 0;house e flour 9 salt 0;");
        due("five without feuds", five.wanting(NONE), NONE);
        five.feud(3, 4, 7);
        due("a ring of three", five.wanting(NONE), 3);
        due("a-b", five.wanting(0), 1);
        due("a-c", five.wanting(1), 2);
        due("b-c", five.wanting(2), 8 + 2);
        due("wanting(3)", five.wanting(3), NONE);
        due("no houses", of("loaf 1;").wanting(NONE), 0);
        due("without a duchy", new EnemyBread().wanting(NONE), NONE);
    }

    private static void spared() {
        String three = "loaf 1;house a flour 90 salt 0;house b flour 90 salt 0;house c flour 90 salt 0;"
                + "feud a with b hate 5;feud a with c hate 1;feud b with c hate 9;starves hunger>1;";
        EnemyBread x = of(three);
        // b bakes for a, c for b, a for c; in a chain the one in the middle bakes for one alone.
        due("soon none starves", x.spared(1, NONE), 3);
        due("a-b", x.spared(1, 0), 1);
        due("a-c", x.spared(1, 1), 2);
        due("b-c", x.spared(1, 2), 8 + 2);
        due("no fourth", x.spared(1, 3), NONE);
        due("then all are needed", x.spared(2, NONE), 0);
        due("no first", x.spared(2, 0), NONE);
        due("spared(0, NONE)", x.spared(0, NONE), NONE);
        due("spared(21, NONE)", x.spared(21, NONE), NONE);
        due("spared(20, NONE)", x.spared(20, NONE), 0);
        due("spared(1, -2)", x.spared(1, -2), NONE);
        EnemyBread square = of("loaf 1;house a flour 90 salt 0;house b flour 90 salt 0;house c flour 90 salt 0;"
                + "house d flour 90 salt 0;feud a with b hate 5;feud b with c hate 5;feud c with d hate 5;"
                + "feud a with d hate 5;starves hunger>1;");
        // Feuds by pairs: a-b, a-d, b-c, c-d. Left are a-d with b-c, or a-b with c-d: bits 1001 or 0110.
        due("two pairs are enough", square.spared(9, NONE), 2);
        due("the least bits", square.spared(9, 0), 3);
        due("the least bits", square.spared(9, 1), 8 + 2);
        StringBuilder five = new StringBuilder("loaf 1;");
        for (char c = 'a'; c < 'f'; c++) {
            five.append("house ").append(c).append(" flour 9 salt 1;");
        }
        for (char c = 'a'; c < 'f'; c++) {
            for (char d = (char) (c + 1); d < 'f'; d++) {
                five.append("feud ").append(c).append(" with ").append(d).append(" hate 1;");
            }
        }
        due("ten feuds", of(five.toString()).spared(3, NONE), 10);
        EnemyBread eleven = of(five + "house f flour 9 salt 1;feud a with f hate 1;");
        due("eleven feuds", eleven.spared(3, NONE), NONE);
        due("no houses", of("loaf 1;").spared(3, NONE), 0);
        due("without a duchy", new EnemyBread().spared(1, NONE), NONE);
        put(x, image(990, new int[] {1, 90, 0, 1, 90, 0, 1, 90, 0}, 5, 1, 9)).on();
        due("to DAY 999", x.spared(9, NONE), 0);
        due("beyond DAY 999", x.spared(10, NONE), NONE);
    }

    private static void rest() {
        due("all bake", of(FOUR).rest(3), 0);
        due("no houses", of("loaf 1;").rest(1), 0);
        due("without a duchy", new EnemyBread().rest(1), NONE);
        due("rest(0)", of(FOUR).rest(0), NONE);
        due("rest(21)", of(FOUR).rest(21), NONE);
        due("rest(20)", of(FOUR).rest(20), 0);
        EnemyBread last = of(FOUR);
        put(last, image(999, new int[] {1, 1, 0, 1, 1, 0, 1, 1, 0, 1, 1, 0}, 0, 0, 0, 0, 0, 0)).on();
        due("beyond DAY 999", last.rest(1), NONE);
        // A loaf ends the feud. If all bake, c bakes for b, then nobody eats any more: b, c are 1, 2 hungry; if c
        // bakes not, b bakes for c the next DAY: 2, 0; so c would rest. If b rests, c is 2 hungry either way, and b
        // is 1 hungry either way. If c rests, nobody gains either: of these two the least bits.
        EnemyBread x = of("loaf 9;house a flour 0 salt 0;house b flour 0 salt 0;house c flour 9 salt 0;"
                + "feud b with c hate 1;grows 9;cools hate-loaves*2;");
        due("one DAY: nobody gains", x.rest(1), 0);
        due("two DAYS: b rests", x.rest(2), 2);
        // As above, but who is 2 hungry is gone: c is gone (10) if it bakes, b if c does not.
        EnemyBread y = of("loaf 9;house a flour 0 salt 9;house b flour 0 salt 9;house c flour 9 salt 0;"
                + "feud b with c hate 1;grows 9;cools hate-loaves*2;starves hunger>1 and salt=0;");
        due("c is gone either way, if b rests", y.rest(2), 2);
        EnemyBread first = of("loaf 9;house a flour 0 salt 0;house b flour 9 salt 0;feud a with b hate 1;grows 9;"
                + "cools hate-loaves*2;");
        due("the first house, too", first.rest(2), 1);
        // Flour above 18 starves, so who does not bake may be gone: tried by the model for all sixteen sets.
        EnemyBread none = of("loaf 9;house a flour 18 salt 2;house b flour 18 salt 0;house c flour 9 salt 1;"
                + "house d flour 9 salt 2;feud a with c hate 7;feud a with d hate 1;feud c with d hate 2;"
                + "grows hunger*3;cools 9-hate-loaves;bakes 0-flour;starves flour>18 or hunger>4;");
        due("no set is", none.rest(4), NONE);
    }

    private static void see() {
        EnemyBread x = of(TWO);
        due("one row", put(x, 0, 0, 0).see(), 1);
        due("the last day, house, taste", put(x, 30, 1, 99).see(), 1);
        due("none eaten", put(x, 30, 1, 255).see(), 1);
        int[] rows = new int[48];
        due("16 rows", put(x, rows).see(), 16);
        due("has(7)", x.has(7), 16);
        due("17 rows", put(x, new int[51]).see(), NONE);
        due("none", x.see(), NONE);
        due("two bytes", put(x, 0, 0).see(), NONE);
        due("four bytes", put(x, 0, 0, 0, 0).see(), NONE);
        due("day 31", put(x, 31, 0, 0).see(), NONE);
        due("house 2", put(x, 0, 2, 0).see(), NONE);
        due("taste 100", put(x, 0, 0, 100).see(), NONE);
        due("taste 254", put(x, 0, 0, 0, 0, 0, 254).see(), NONE);
        due("status(1)", x.status(1), 8);
        due("all stays", x.has(7), 16);
        due("the tape goes", x.end(1), false);
        due("without a duchy", put(new EnemyBread(), 0, 0, 0).see(), NONE);
    }

    private static void flour() {
        EnemyBread x = of(TWO + "tastes flour/10;grows 0;");
        due("all", x.flour(0, 0), 100);
        due("least of all", x.flour(0, 1), 0);
        due("greatest of all", x.flour(0, 2), 99);
        due("flour(0, 3)", x.flour(0, 3), NONE);
        due("flour(0, -1)", x.flour(0, -1), NONE);
        due("flour(2, 0)", x.flour(2, 0), NONE);
        due("flour(-1, 0)", x.flour(-1, 0), NONE);
        put(x, 0, 1, 3).see();
        due("by what b tastes of a's loaf", x.flour(0, 0), 10);
        due("least", x.flour(0, 1), 30);
        due("greatest", x.flour(0, 2), 39);
        due("b's flour is not tasted by b", x.flour(1, 0), 0);
        due("least without", x.flour(1, 1), NONE);
        due("greatest without", x.flour(1, 2), NONE);
        put(x, 0, 1, 3, 1, 1, 2).see();
        // 5 less the next DAY: 30 .. 34 are then 25 .. 29.
        due("two rows", x.flour(0, 0), 5);
        due("two rows", x.flour(0, 2), 34);
        put(x, 1, 1, 255).see();
        due("not for two loaves", x.flour(0, 2), 9);
        x.bring(0, 77);
        due("whatever it has now", x.flour(0, 2), 9);
        put(x, image(998, new int[] {1, 20, 0, 1, 12, 0}, 30)).on();
        due("SEEN stays, its DAY is beyond 999", x.flour(0, 0), 0);
        put(x, 0, 1, 3).see();
        due("the last DAY", x.flour(0, 0), 10);
        put(x, image(3, new int[] {1, 20, 0, 0, 12, 0}, 0)).on();
        due("one that is not there", x.flour(1, 0), NONE);
        due("one that eats none any more", x.flour(0, 0), 0);
        put(x, 0, 1, 255, 30, 1, 255).see();
        due("one that eats none any more", x.flour(0, 0), 100);
    }

    private static void tells() {
        EnemyBread x = of(TWO + "tastes flour/10;grows 0;");
        // By b's taste of a's loaf next DAY 10 numbers each are left; 0 .. 4 (none) make the first part smaller.
        due("DAY", x.tells(0, 0), 0);
        due("HOUSE", x.tells(0, 1), 1);
        due("left", x.tells(0, 2), 10);
        due("tells(0, 3)", x.tells(0, 3), NONE);
        due("tells(0, -1)", x.tells(0, -1), NONE);
        due("tells(2, 0)", x.tells(2, 0), NONE);
        put(x, 0, 1, 3).see();
        due("DAY behind a row", x.tells(0, 0), 1);
        due("HOUSE behind a row", x.tells(0, 1), 1);
        due("left behind a row", x.tells(0, 2), 5);
        put(x, 0, 1, 60).see();
        due("without any", x.tells(0, 0), NONE);
        due("without any", x.tells(0, 2), NONE);
        EnemyBread y = of(TWO + "tastes 1;");
        put(y, image(999, new int[] {1, 20, 0, 1, 12, 0}, 30)).on();
        due("when no DAY comes", y.tells(0, 0), NONE);
        due("numbers are left", y.flour(0, 0), 100);
        put(y, image(998, new int[] {1, 20, 0, 1, 12, 0}, 30)).on();
        due("one DAY comes", y.tells(0, 0), 0);
        due("5 .. 99 for b, else none", y.tells(0, 1), 1);
        due("95 at the most", y.tells(0, 2), 95);
        put(y, image(3, new int[] {1, 20, 0, 0, 12, 0}, 0)).on();
        due("one that is not there", y.tells(1, 0), NONE);
        due("nothing told by any", y.tells(0, 0), 0);
        due("nothing told by any", y.tells(0, 1), 0);
        due("nothing told by any", y.tells(0, 2), 100);
    }

    private static void feud() {
        EnemyBread x = of(FOUR);
        due("another hate", x.feud(0, 1, 99), true);
        due("hate", x.hate(1, 0), 99);
        due("that hate", x.feud(1, 0, 99), false);
        due("a new one", x.feud(2, 0, 1), true);
        due("hate", x.hate(0, 2), 1);
        due("ended", x.feud(0, 2, 0), true);
        due("hate", x.hate(0, 2), 0);
        due("ended already", x.feud(0, 2, 0), false);
        due("100", x.feud(0, 1, 100), false);
        due("-1", x.feud(0, 1, -1), false);
        due("one alone", x.feud(1, 1, 5), false);
        due("none such", x.feud(0, 4, 5), false);
        due("none such", x.feud(-1, 0, 5), false);
        due("status(2)", x.status(2), 7);
        due("acts", x.has(8), 3);
        put(x, image(0, new int[] {0, 1, 0, 1, 1, 0, 1, 1, 0, 1, 1, 0}, 0, 0, 0, 7, 0, 0)).on();
        due("one that is not there", x.feud(0, 1, 5), false);
        due("those that are", x.feud(1, 2, 8), true);
    }

    private static void bring() {
        EnemyBread x = of(TWO);
        due("other flour", x.bring(0, 99), true);
        due("flour", x.house(0, 0), 99);
        due("that flour", x.bring(0, 99), false);
        due("0", x.bring(0, 0), true);
        due("100", x.bring(0, 100), false);
        due("-1", x.bring(0, -1), false);
        due("none such", x.bring(2, 5), false);
        due("none such", x.bring(-1, 5), false);
        due("status(2)", x.status(2), 5);
        due("acts", x.has(8), 2);
        put(x, image(0, new int[] {0, 1, 0, 1, 1, 0}, 0)).on();
        due("one that is not there", x.bring(0, 5), false);
    }

    private static void days() {
        EnemyBread x = of(TWO);
        due("0", x.days(0), NONE);
        due("-1", x.days(-1), NONE);
        due("101", x.days(101), NONE);
        due("status(3)", x.status(3), 3);
        due("two loaves", x.days(1), 2);
        // 20, 12 of flour with 5 less and 1 more each DAY.
        due("flour", x.house(0, 0), 16);
        due("flour", x.house(1, 0), 8);
        due("two again", x.days(2), 3);
        due("one ACT each", x.has(8), 2);
        due("100", x.days(97) >= 0, true);
        due("day", x.has(2), 100);
        due("without a duchy", new EnemyBread().days(1), NONE);
        put(x, image(900, new int[] {1, 9, 0, 1, 9, 0}, 3)).on();
        due("beyond DAY 999", x.days(100), NONE);
        due("all stays", x.has(2), 900);
        due("to DAY 999", x.days(99) >= 0, true);
        due("day", x.has(2), 999);
        due("at DAY 999", x.days(1), NONE);
        due("status(3)", x.status(3), 5);
        due("without houses", of("loaf 1;").days(7), 0);
    }

    private static void chance() {
        EnemyBread e = of("loaf 20;house a flour 99 salt 0;house b flour 88 salt 0;house c flour 77 salt 0;"
                + "starves flour<40;grows 0;famine 40;");
        x = 1;
        int[] flour = {99, 88, 77};
        int famines = 0;
        for (int d = 0; d < 9; d++) {
            if (draw(100) < 40) {
                int h = draw(3);
                flour[h] /= 2;
                famines++;
            }
        }
        due("famines", e.chance(9), famines);
        for (int h = 0; h < 3; h++) {
            due("flour of " + h + ", gone or not", e.house(h, 0), flour[h]);
        }
        due("one ACT", e.has(8), 1);
        due("undone", e.undo(), true);
        due("flour", e.house(0, 0), 99);
        famines = 0;
        for (int d = 0; d < 9; d++) {
            if (draw(100) < 40) {
                draw(3);
                famines++;
            }
        }
        due("the seed stays", e.chance(9), famines);
        due("0", e.chance(0), NONE);
        due("101", e.chance(101), NONE);
        due("status(3)", e.status(3), 2);
        due("100 of 100", of(TWO + "famine 5;famine 100;").chance(100), 100);
        due("0 of 100", of(TWO + "famine 5;famine 0;").chance(100), 0);
        due("none told", of(TWO).chance(100), 0);
        due("without houses", of("loaf 1;famine 100;").chance(3), 0);
        EnemyBread alone = of("loaf 1;house a flour 99 salt 0;grows 0;famine 100;");
        due("one house", alone.chance(2), 2);
        due("half of a half, rounded down", alone.house(0, 0), 24);
        due("without a duchy", new EnemyBread().chance(1), NONE);
        put(e, image(999, new int[] {1, 1, 0, 1, 1, 0, 1, 1, 0}, 0, 0, 0)).on();
        due("at DAY 999", e.chance(1), NONE);
    }

    private static void undo() {
        EnemyBread e = of(TWO);
        due("none", e.undo(), false);
        due("status(4)", e.status(4), 1);
        e.feud(0, 1, 9);
        e.bring(0, 9);
        e.days(3);
        e.chance(2);
        due("chance", e.undo(), true);
        due("day", e.has(2), 3);
        due("days", e.undo(), true);
        due("day", e.has(2), 0);
        due("kept", e.has(6), 0);
        due("flour", e.house(0, 0), 9);
        due("bring", e.undo(), true);
        due("flour", e.house(0, 0), 20);
        due("hate", e.hate(0, 1), 9);
        due("feud", e.undo(), true);
        due("hate", e.hate(0, 1), 30);
        due("none", e.undo(), false);
        for (int i = 0; i < 25; i++) {
            e.bring(0, 40 + i);
        }
        due("20", e.has(8), 20);
        for (int i = 0; i < 20; i++) {
            due("undo " + i, e.undo(), true);
        }
        due("none", e.undo(), false);
        due("the fifth", e.house(0, 0), 44);
        due("status(4)", e.status(4), 3);
        EnemyBread gone = of("loaf 5;house a flour 1 salt 1;house b flour 1 salt 1;feud a with b hate 7;starves all;");
        gone.days(1);
        due("gone", gone.has(3), 0);
        due("feuds over", gone.has(4), 0);
        gone.undo();
        due("there again", gone.has(3), 2);
        due("feuds again", gone.hate(0, 1), 7);
    }

    private static void seed() {
        EnemyBread e = of(TWO + "famine 50;");
        due("-1", e.seed(-1), false);
        due("min", e.seed(Integer.MIN_VALUE), false);
        due("status(5)", e.status(5), 2);
        for (int s : new int[] {0, 1, 99, 2147483647}) {
            due("seed " + s, e.seed(s), true);
            x = s;
            int famines = 0;
            for (int d = 0; d < 40; d++) {
                if (draw(100) < 50) {
                    draw(2);
                    famines++;
                }
            }
            due("famines by " + s, e.chance(40), famines);
        }
    }

    private static void ask() {
        EnemyBread e = of(FOUR + "tastes salt*10+hunger;");
        asks(e, "first all", 0);
        asks(e, "last all", 3);
        asks(e, "often all", 4);
        asks(e, "often not all", 0);
        asks(e, "first not all", NONE);
        asks(e, "last not all", NONE);
        asks(e, "first salt>2", 2);
        asks(e, "last salt<3", 1);
        asks(e, " \nfirst\nsalt = 3 and [ number > 1 or all ] ", 2);
        asks(e, "total salt", 10);
        asks(e, "total 9999*9999", 4000000);
        asks(e, "most salt*0-number", 0);
        asks(e, "least salt*0-number", -3);
        asks(e, "least 0-1", -1);
        asks(e, "total feuds", 8);
        asks(e, "total hate 0", 50);
        asks(e, "total hate number", 0);
        asks(e, "most hate 1+2", 22);
        asks(e, "total hate (1+2)", 70);
        asks(e, "total hate 9", 0);
        asks(e, "total hate(0-1)", 0);
        // How what a bakes would taste: b, d are enemies (10 each), the others -1.
        asks(e, "total tastes 0", 18);
        asks(e, "most tastes 3", 40);
        asks(e, "least tastes number", -1);
        asks(e, "total tastes 7", -4);
        asks(e, "most hate hate 9", 40);
        asks(e, "often tastes hate 9 = 10", 2);
        asks(e, "total min(salt,2)+max(number,2)-day", 7 + 9);
        asks(e, "often hate hate hate hate hate hate 1=1", 0);
        asks(e, "most 1" + times("+1", 797), 798);
        asks(e, "most 1+1*" + times("(1+1*", 6) + "2" + times(")", 6), 9);
        asks(e, "most 1+1*" + times("min(99,1+1*", 6) + "2" + times(")", 6), 9);
        asks(e, "often 1=2 or all and " + times("[1=2 or all and ", 6) + "1<1+1*2" + times("]", 6), 4);
        asks(e, "often 1=2 or all and " + times("[1=2 or all and ", 3) + "1<1+1*" + times("max(0,1+1*", 3) + "2"
                + times(")", 3) + times("]", 3), 4);
        EnemyBread gone = of(FOUR + "starves salt=1 or salt=4;grows 0;");
        gone.days(1);
        asks(gone, "first all", 1);
        asks(gone, "last all", 2);
        asks(gone, "total day", 2);
        asks(gone, "total feuds", 2);
        asks(gone, "most number", 2);
        asks(gone, "least number", 1);
        asks(gone, "most tastes 0", -1);
        asks(gone, "total flour", 30);
        gone.days(1);
        asks(gone, "total hunger", 0);
        EnemyBread empty = of("loaf 5;");
        asks(empty, "first all", NONE);
        asks(empty, "often all", 0);
        asks(empty, "most 5", 0);
        asks(empty, "least 5", 0);
        asks(empty, "total 5", 0);
        EnemyBread none = new EnemyBread();
        due("without a duchy", put(none, "often all").ask(), NOTHING);
        due("its tape goes", none.end(1), false);
        due("a FAULT is none of it", put(none, "x").ask(), NOTHING);
        due("doing nothing else", none.fault(0), 0);
    }

    private static void asksWithFaults() {
        asksFaulty("", 1, 0);
        asksFaulty("  ", 1, 2);
        asksFaulty("what all", 1, 0);
        asksFaulty("flour", 1, 0);
        asksFaulty(" oftens all", 1, 1);
        asksFaulty("often", 1, 5);
        asksFaulty("often ", 1, 6);
        asksFaulty("often all;", 1, 9);
        asksFaulty("often all all", 1, 10);
        asksFaulty("total all", 1, 6);
        asksFaulty("total salt>1", 1, 10);
        asksFaulty("total loaves", 1, 6);
        asksFaulty("total hate", 1, 10);
        asksFaulty("total hate + 1", 1, 11);
        asksFaulty("total hate2", 1, 10);
        asksFaulty("total a", 1, 6);
        asksFaulty("total 12345", 1, 10);
        asksFaulty("total 1x", 1, 7);
        asksFaulty("total hate hate hate hate hate hate hate 1", 4, 36);
        asksFaulty("total tastes tastes tastes tastes tastes tastes tastes 1", 4, 48);
        asksFaulty("often not [ ( hate tastes min ( hate 1,2)) > 1]", 4, 32);
        asksFaulty("often not not not [ [ ( hate 1 ) > 1 ] ]", 4, 24);
    }

    private static void image() {
        due("without a duchy", new EnemyBread().image(), 3);
        EnemyBread e = of(TWO);
        due("two houses", e.image(), 10);
        due("four houses", of(FOUR).image(), 2 + 12 + 6 + 1);
        put(e, image(700, new int[] {1, 20, 4, 0, 12, 9}, 0)).on();
        due("two houses", e.image(), 10);
        int[] want = image(700, new int[] {1, 20, 4, 0, 12, 9}, 0);
        for (int k = 0; k < 10; k++) {
            due("octet(" + k + ")", e.octet(k), want[k]);
        }
        EnemyBread f = of(FOUR);
        f.image();
        int[] four = image(0, new int[] {1, 20, 0, 1, 20, 0, 1, 20, 0, 1, 20, 0}, 10, 0, 40, 20, 0, 30);
        for (int k = 0; k < 21; k++) {
            due("octet(" + k + ")", f.octet(k), four[k]);
        }
    }

    private static void octet() {
        EnemyBread e = of(TWO);
        due("ahead of any", e.octet(0), NONE);
        e.image();
        due("octet(-1)", e.octet(-1), NONE);
        due("octet(10)", e.octet(10), NONE);
        due("octet(max)", e.octet(Integer.MAX_VALUE), NONE);
        due("flour", e.octet(3), 20);
        e.bring(0, 7);
        due("of the latest image()", e.octet(3), 20);
        put(e, "loaf 1;").duchy();
        due("of the latest image()", e.octet(3), 20);
        e.image();
        due("of a smaller one", e.octet(3), NONE);
    }

    private static void on() {
        EnemyBread e = of(TWO);
        put(e, 0, 1, 9).see();
        e.days(2);
        int[] good = image(999, new int[] {1, 99, 9, 1, 0, 0}, 99);
        due("on()", put(e, good).on(), true);
        due("day", e.has(2), 999);
        due("flour", e.house(0, 0), 99);
        due("hunger", e.house(0, 2), 9);
        due("hate", e.hate(0, 1), 99);
        due("nothing KEPT", e.has(6), 0);
        due("nothing to undo", e.has(8), 0);
        due("SEEN stays", e.has(7), 1);
        due("the tape goes", e.end(1), false);
        due("one gone", put(e, image(5, new int[] {0, 99, 9, 1, 0, 0}, 0)).on(), true);
        due("gone", e.house(0, 3), 0);
        due("there again", put(e, good).on(), true);
        int[][] bad = {
            image(1000, new int[] {1, 99, 9, 1, 0, 0}, 99), image(0, new int[] {2, 99, 9, 1, 0, 0}, 99),
            image(0, new int[] {1, 100, 9, 1, 0, 0}, 99), image(0, new int[] {1, 99, 10, 1, 0, 0}, 99),
            image(0, new int[] {1, 99, 9, 1, 0, 0}, 100), image(0, new int[] {0, 99, 9, 1, 0, 0}, 1),
            image(0, new int[] {1, 99, 9, 0, 0, 0}, 1), image(0, new int[] {1, 99, 9}), image(0, new int[] {}), {},
            image(0, new int[] {1, 1, 1, 1, 1, 1, 1, 1, 1}, 1, 1, 1), image(0, new int[] {2, 9, 9, 1, 0, 0}, 0),
            image(0, new int[] {1, 9, 9, 2, 0, 0}, 0)};
        for (int[] b : bad) {
            due("an image that is none", put(e, b).on(), false);
            due("all stays", e.has(2), 999);
        }
        good[9] ^= 1;
        due("another last byte", put(e, good).on(), false);
        due("status(5)", e.status(5), bad.length + 1);
        EnemyBread none = new EnemyBread();
        due("without a duchy", put(none, image(0, new int[] {})).on(), false);
        due("status(5)", none.status(5), 1);
        due("its tape goes", none.end(1), false);
    }

    private static void status() {
        EnemyBread e = new EnemyBread();
        e.end(-1);
        e.see();
        e.duchy();
        e.feud(0, 0, 0);
        e.bring(0, 0);
        e.feud(1, 0, 0);
        e.days(1);
        e.chance(1);
        e.days(0);
        e.days(0);
        e.undo();
        e.undo();
        e.undo();
        e.undo();
        e.undo();
        for (int i = 0; i < 3; i++) {
            e.seed(-1);
            e.on();
        }
        int[] want = {1, 2, 3, 4, 5, 6};
        for (int what = 0; what < 6; what++) {
            due("status(" + what + ")", e.status(what), want[what]);
        }
        due("status(6)", e.status(6), NONE);
        due("status(-1)", e.status(-1), NONE);
        e.ask();
        e.status(0);
        due("ask() refuses nothing", e.status(1), 2);
    }

    private static void soughtOnce(EnemyBread e, String when, int[] want) {
        int[] got = {e.table(0), e.wanting(NONE), e.spared(2, NONE), e.flour(0, 1), e.tells(0, 2)};
        for (int i = 0; i < want.length; i++) {
            due("answer " + i + " " + when, got[i], want[i]);
            due("answer " + i + " " + when + ", asked again", new int[] {
                e.table(0), e.wanting(NONE), e.spared(2, NONE), e.flour(0, 1), e.tells(0, 2)}[i], want[i]);
        }
    }

    /** What is sought must be sought anew behind each change. */
    private static void soughtAnew() {
        String one = "loaf 5;house a flour 20 salt 0;house b flour 20 salt 0;starves hunger>1;grows 0;";
        String two = one + "feud a with b hate 3;tastes flour;";
        int[] apart = {0, 1, 0, 0, 100};
        int[] foes = {2, 0, 0, 0, 5};
        EnemyBread e = of(one + "tastes flour;");
        soughtOnce(e, "at first", apart);
        e.feud(0, 1, 3);
        soughtOnce(e, "behind feud()", foes);
        e.undo();
        soughtOnce(e, "behind undo()", apart);
        put(e, two).duchy();
        soughtOnce(e, "behind duchy()", foes);
        e.bring(1, 4);
        soughtOnce(e, "behind bring()", new int[] {1, NONE, 0, 0, 5});
        e.undo();
        put(e, 0, 1, 50).see();
        soughtOnce(e, "behind see()", new int[] {2, 0, 0, 50, 1});
        put(e, image(0, new int[] {1, 20, 0, 1, 20, 0}, 0)).on();
        soughtOnce(e, "behind on()", new int[] {0, 1, 0, NONE, NONE});
        put(e, two + "famine 100;").duchy();
        e.days(4);
        soughtOnce(e, "behind days()", new int[] {0, NONE, 1, 0, 5});
        e.undo();
        e.chance(3);
        due("behind chance()", e.table(0), (e.house(0, 0) >= 5 ? 1 : 0) + (e.house(1, 0) >= 5 ? 1 : 0));
    }

    private static void run(int k) {
        promise = k;
        switch (k) {
            case 1: aNewObject(); break;
            case 2: feed(); break;
            case 3: end(); break;
            case 4: duchyThatIsFine(); duchyWithFaults(); sumsWithFaults(); duchyThatBeginsAnew(); break;
            case 5: fault(); break;
            case 6: has(); break;
            case 7: letter(); break;
            case 8: house(); break;
            case 9: hate(); break;
            case 10: baker(); break;
            case 11: taste(); break;
            case 12: kept(); break;
            case 13: later(); break;
            case 14: cooled(); break;
            case 15: starves(); break;
            case 16: table(); break;
            case 17: wanting(); break;
            case 18: spared(); break;
            case 19: rest(); break;
            case 20: see(); break;
            case 21: flour(); break;
            case 22: tells(); break;
            case 23: feud(); break;
            case 24: bring(); break;
            case 25: days(); break;
            case 26: chance(); break;
            case 27: undo(); break;
            case 28: seed(); break;
            case 29: ask(); asksWithFaults(); break;
            case 30: image(); break;
            case 31: octet(); break;
            case 32: on(); break;
            default: status(); soughtAnew();
        }
    }

    public static void main(String[] args) {
        for (int k = 1; k <= 33; k++) {
            run(k);
        }
        System.out.println(checks + " answers of 33 promises, " + wrong + " not as due");
        if (wrong != 0) {
            System.exit(1);
        }
    }
}
