/** The edges of what is sought and told ahead, of questions' answers and of images: terms III, IV and the constants. */
public final class SearchBoundaryTest extends Sentences {
    private static final String PAIR = houses(2) + "feud a with b hate 4;";

    private static void table(EnemyBread e, int... row) {
        for (int what = 0; what < row.length; what++) {
            due("table(" + what + ")", e.table(what), row[what]);
        }
    }

    private static void wanting(EnemyBread e, int... pairs) {
        due("wanting(NONE)", e.wanting(NONE), pairs.length);
        for (int k = 0; k < pairs.length; k++) {
            due("wanting(" + k + ")", e.wanting(k), pairs[k]);
        }
        due("wanting(" + pairs.length + ")", e.wanting(pairs.length), NONE);
    }

    private static void spared(EnemyBread e, int n, int... pairs) {
        due("spared(" + n + ", NONE)", e.spared(n, NONE), pairs.length);
        for (int k = 0; k < pairs.length; k++) {
            due("spared(" + n + ", " + k + ")", e.spared(n, k), pairs[k]);
        }
        due("spared(" + n + ", " + pairs.length + ")", e.spared(n, pairs.length), NONE);
    }

    @Says(in = "III", text = "A TABLE is an ENEMY with flour for a loaf, or nobody, for each HOUSE that is there, no one twice, now:")
    static void tables() {
        table(of(PAIR), 2, 8, 1, 0);
        table(at(PAIR, 0, new int[] {1, 5, 0, 1, 4, 0}, 4), 1, 4, NONE, 0);
        table(at(PAIR, 0, new int[] {1, 4, 0, 1, 4, 0}, 4), 0, 0, NONE, NONE);
        table(of(houses(2)), 0, 0, NONE, NONE);
        // c is the only enemy of a and of b: it bakes for one of them.
        table(of(houses(3) + "feud a with c hate 2;feud b with c hate 1;"), 2, 2, NONE, 2, 1);
        table(at(houses(3), 0, new int[] {1, 20, 0, 0, 20, 0, 1, 20, 0}, 0, 3, 0), 2, 6, 2, NONE, 0);
        table(at(PAIR, 999, new int[] {1, 20, 0, 1, 20, 0}, 4), 2, 8, 1, 0);
        table(of("loaf 5;"), 0, 0);
        due("a ninth house", of(houses(7)).table(9), NONE);
        EnemyBread now = of(PAIR);
        table(now, 2, 8, 1, 0);
        now.bring(1, 4);
        table(now, 1, 4, NONE, 0);
        now.undo();
        table(now, 2, 8, 1, 0);
        now.feud(0, 1, 9);
        table(now, 2, 18, 1, 0);
        now.days(4);
        table(now, 0, 0, NONE, NONE);
        put(now, PAIR).duchy();
        table(now, 2, 8, 1, 0);
        put(now, image(0, new int[] {1, 20, 0, 1, 20, 0}, 1)).on();
        table(now, 2, 2, 1, 0);
    }

    @Says(in = "III", text = "MOST eat by it, of these with the least hate together (for each who eats that of the feud with whoever "
            + "bakes for it: a feud by which two bake for one another counts twice)")
    static void mostEat() {
        // All four eat by 99 twice, though two would eat by 1 twice.
        table(of(houses(4) + "feud a with b hate 1;feud c with d hate 99;"), 4, 200, 1, 0, 3, 2);
        // a and c share b: with the least hate b and c bake for one another.
        table(of(houses(3) + "feud a with b hate 99;feud b with c hate 1;"), 2, 2, NONE, 2, 1);
        // A ring of three: each feud counts once, two rings alike, the first row.
        table(of(houses(3) + "feud a with b hate 1;feud a with c hate 2;feud b with c hate 4;"), 3, 7, 1, 2, 0);
        // Two pairs by 10 + 10 + 30 + 30, not the ring of 10 + 20 + 30 + 40.
        table(of(houses(4) + "feud a with b hate 10;feud b with c hate 20;feud c with d hate 30;feud a with d hate 40;"),
                4, 80, 1, 0, 3, 2);
        StringBuilder ring = new StringBuilder(houses(7));
        for (int i = 0; i < 7; i++) {
            ring.append("feud ").append((char) ('a' + i)).append(" with ").append((char) ('a' + (i + 1) % 7))
                    .append(" hate 99;");
        }
        table(of(ring.toString()), 7, 693, 1, 2, 3, 4, 5, 6, 0);
    }

    @Says(in = "III", text = "of like ones the first row (HOUSE by HOUSE nobody, then HOUSES by numbers).")
    static void firstRow() {
        // a and c share b, all by 5: nobody for a goes ahead, and of a and c the first bakes for b.
        table(of(houses(3) + "feud a with b hate 5;feud b with c hate 5;"), 2, 10, NONE, 0, 1);
        table(of(houses(4) + "feud a with b hate 5;feud a with c hate 5;feud b with d hate 5;feud c with d hate 5;"),
                4, 20, 1, 0, 3, 2);
        table(at(houses(3), 0, new int[] {1, 0, 0, 1, 20, 0, 1, 20, 0}, 5, 5, 0), 1, 5, 1, NONE, NONE);
    }

    @Says(in = "III", text = "WANTING are the fewest feuds (3 at most) that two HOUSES there, which have none, would have to have, "
            + "so that by a TABLE all that are there eat:")
    static void fewestFeuds() {
        wanting(of("loaf 5;"));
        due("one alone", of(houses(1)).wanting(NONE), NONE);
        wanting(of(PAIR));
        wanting(of(houses(2)), 1);
        wanting(of(houses(3)), 1, 2, 10);
        wanting(of(houses(4)), 1, 19);
        // A ring of three and a pair would be four.
        due("five", of(houses(5)).wanting(NONE), NONE);
        due("the first of five", of(houses(5)).wanting(0), NONE);
        wanting(of(houses(6)), 1, 19, 37);
        due("seven", of(houses(7)).wanting(NONE), NONE);
        // a and g are enemies of one another alone: a bakes for g, the last one to eat.
        wanting(of(houses(7) + "feud a with g hate 1;feud b with c hate 1;feud c with d hate 1;feud b with d hate 1;"
                + "feud e with f hate 1;"));
        due("with flour for a loaf", at(houses(2), 0, new int[] {1, 5, 0, 1, 5, 0}, 0).wanting(NONE), 1);
        due("without", at(houses(2), 0, new int[] {1, 5, 0, 1, 4, 0}, 0).wanting(NONE), NONE);
        wanting(at(houses(3), 0, new int[] {1, 5, 0, 0, 0, 0, 1, 5, 0}, 0, 0, 0), 2);
        wanting(at(houses(3), 0, new int[] {0, 5, 0, 0, 0, 0, 0, 5, 0}, 0, 0, 0));
        EnemyBread now = of(houses(2));
        wanting(now, 1);
        now.feud(0, 1, 1);
        wanting(now);
        now.undo();
        wanting(now, 1);
        due("one alone is there", at(houses(2), 0, new int[] {1, 5, 0, 0, 0, 0}, 0).wanting(NONE), NONE);
    }

    @Says(in = "III", text = "of like ones the first row of pairs (the less number first; rising).")
    static void firstPairs() {
        // With b and d as enemies a and c could be a pair, too; first would be a with c alone.
        wanting(of(houses(4) + "feud b with d hate 1;"), 2);
        wanting(of(houses(4) + "feud a with b hate 1;"), 19);
        // a, b, c are enemies in a row: a feud of a with c makes a ring, and no other goes ahead of it.
        wanting(of(houses(3) + "feud a with b hate 1;feud b with c hate 1;"), 2);
        // c and d share b, a has none: a pair of a with c or with d leaves d or c to b.
        wanting(of(houses(4) + "feud b with c hate 1;feud b with d hate 1;"), 2);
        wanting(of(houses(5) + "feud d with e hate 1;"), 1, 2, 10);
        // A ring of a, b, c with a pair of d and e goes ahead of a ring of c, d, e.
        wanting(of(houses(5) + "feud a with b hate 1;"), 2, 10, 28);
    }

    @Says(in = "III", text = "SPARED are the most feuds (10 there are at the most) that could be ended now, so that nobody starves in "
            + "n DAYS who would not if none were ended;")
    static void mostSpared() {
        String full = "loaf 1;house a flour 90 salt 0;house b flour 90 salt 0;house c flour 90 salt 1;";
        // Without a feud a house is 2 hungry behind two DAYS: nobody starves in one, both in two.
        EnemyBread two = of(full + "feud a with b hate 1;starves hunger>1;");
        spared(two, 1, 1);
        spared(two, 2);
        spared(two, 20);
        // In the third DAY both starve with it or without, but not in two.
        EnemyBread third = of(full + "feud a with b hate 1;starves hunger>1 or day=2;");
        spared(third, 2);
        spared(third, 3, 1);
        // Now: with a ring of three each has an enemy left.
        EnemyBread now = of(full + "feud a with b hate 1;starves hunger>1 and salt=0;");
        spared(now, 5);
        now.feud(0, 2, 9);
        now.feud(1, 2, 8);
        spared(now, 5, 2, 10);
        now.undo();
        now.undo();
        spared(now, 5);
        // d and e alone may starve.
        spared(of(houses(5) + "feud d with e hate 1;starves hunger>1 and salt>3;"), 2);
        // c starves with it or without; b bakes for a and c for b, so a and b need one another alone.
        spared(of(full + "feud a with b hate 9;feud b with c hate 1;starves hunger>1 or salt=1;"), 2, 10);
        // All starve: all can be ended.
        spared(of(full + "feud a with b hate 9;feud b with c hate 1;starves day=1;"), 2, 1, 10);
        spared(of(full + "starves hunger>1;"), 2);
        spared(of(tenFeuds() + "starves day=0;"), 1, 1, 2, 3, 4, 10, 11, 12, 19, 20, 28);
        due("11", of(tenFeuds() + "house f flour 1 salt 1;feud a with f hate 1;starves day=0;").spared(1, NONE), NONE);
    }

    private static String tenFeuds() {
        StringBuilder b = new StringBuilder(houses(5));
        for (char c = 'a'; c <= 'e'; c++) {
            for (char d = (char) (c + 1); d <= 'e'; d++) {
                b.append("feud ").append(c).append(" with ").append(d).append(" hate 1;");
            }
        }
        return b.toString();
    }

    @Says(in = "III", text = "of like ones the least bits (feuds by pairs, rising).")
    static void leastBits() {
        // Feuds by pairs: a-b, a-d, b-c, c-d. Left are a-b with c-d (ended 0110) or a-d with b-c (ended 1001).
        EnemyBread square = of("loaf 1;house a flour 90 salt 0;house b flour 90 salt 0;house c flour 90 salt 0;"
                + "house d flour 90 salt 0;feud c with d hate 5;feud b with c hate 5;feud a with d hate 5;"
                + "feud a with b hate 5;starves hunger>1;");
        spared(square, 9, 3, 10);
        // b or c can bake for a, which alone would starve: the first of the two can be ended.
        spared(of("loaf 1;house a flour 90 salt 1;house b flour 90 salt 0;house c flour 90 salt 0;"
                + "feud a with c hate 5;feud a with b hate 5;starves hunger>1 and salt=1;"), 9, 1);
    }

    @Says(in = "III", text = "At REST is a set of HOUSES that bake for nobody, if none, in it or not, would be less hungry behind n DAYS if "
            + "it alone did otherwise (gone counts as 10):")
    static void atRest() {
        due("nobody gains", of(PAIR).rest(1), 0);
        // Behind 4 DAYS a, b are 1, 1 hungry; 0, 4 if a rests; 4, 0 if b does; 4, 4 if both do.
        EnemyBread both = of("loaf 9;house a flour 0 salt 0;house b flour 0 salt 1;feud a with b hate 2;grows hunger*3;");
        due("one that is not in it gains by rest", both.rest(4), 1);
        // Behind 4 DAYS: 0, gone; 1, gone if a rests; gone, 1 if b does; gone, gone if both do.
        EnemyBread in = of("loaf 9;house a flour 9 salt 1;house b flour 18 salt 1;feud a with b hate 2;grows hunger*3;"
                + "starves hunger>2;");
        due("one that is in it gains by baking", in.rest(4), 2);
        // Behind 10 DAYS: 9, 9; gone, 9 if a rests; 9, 8 if b does; gone, 9 if both do.
        EnemyBread ten = of("loaf 9;house a flour 18 salt 0;house b flour 9 salt 0;feud a with b hate 3;grows 0;"
                + "cools hate-loaves*2;starves flour>17 and day>0;");
        due("9 is less than gone", ten.rest(10), 2);
        // Who bakes has less than 20 of flour, and is gone: each that could bake rests.
        StringBuilder seven = new StringBuilder(houses(7));
        for (char c = 'a'; c < 'g'; c++) {
            seven.append("feud ").append(c).append(" with ").append((char) (c + 1)).append(" hate 1;");
        }
        due("all seven", of(seven + "starves flour<20;grows 0;").rest(1), 127);
        due("one that is gone ahead", at(houses(3), 0, new int[] {0, 0, 0, 1, 20, 0, 1, 20, 0}, 0, 0, 4).rest(2), 0);
    }

    @Says(in = "III", text = "of the fewest, of like ones the least bits.")
    static void fewestAtRest() {
        // Behind 3 DAYS: 3,1,1; a 1,3,2; b 3,1,2; a, b 1,0,3; c 3,3,1; a, c 3,3,2; b, c 3,3,2; all 3,3,3:
        // a with b are at rest (bits 3), and so is c alone (bits 4).
        EnemyBread fewest = of("loaf 9;house a flour 9 salt 0;house b flour 9 salt 1;house c flour 0 salt 0;"
                + "feud a with c hate 1;feud b with c hate 1;grows 9;cools hate-loaves;");
        due("the fewest", fewest.rest(3), 4);
        // As in the sentence ahead: a alone is at rest, and so is b alone.
        EnemyBread like = of("loaf 9;house a flour 0 salt 0;house b flour 0 salt 1;feud a with b hate 2;grows hunger*3;");
        due("the least bits", like.rest(4), 1);
    }

    @Says(in = "III", text = "AHEAD are DAYS as they come from now on without DRAWS (60 at most, not beyond DAY 999).")
    static void ahead() {
        EnemyBread e = of(houses(1) + "famine 100;starves day=59;");
        due("without DRAWS", e.later(0, 9, 0), 29);
        due("60", e.later(0, 60, 2), 0);
        due("59", e.later(0, 59, 2), 1);
        due("61", e.later(0, 61, 2), NONE);
        due("in the 60th", e.starves(0), 59);
        due("in the 61st", of(houses(1) + "starves day=60;").starves(0), NONE);
        due("no act", e.has(8), 0);
        due("no DAY", e.has(2), 0);
        EnemyBread other = of(houses(1) + "famine 50;");
        x = 1;
        int famine = draw(100) < 50 ? 1 : 0;
        other.later(0, 60, 0);
        other.starves(0);
        other.rest(9);
        due("no DRAW is taken", other.chance(1), famine);
        EnemyBread late = at(PAIR, 939, new int[] {1, 20, 0, 1, 20, 0}, 4);
        due("60 to DAY 999", late.cooled(0, 1, 60), 4);
        late.days(1);
        due("60 beyond it", late.cooled(0, 1, 60), NONE);
        due("59 to it", late.cooled(0, 1, 59), 4);
        EnemyBread last = at(PAIR + "starves day=999;", 998, new int[] {1, 20, 0, 1, 20, 0}, 4);
        due("DAY 999 itself never passes", last.starves(0), NONE);
    }

    /** What b tastes is a's flour from a DAY on, ahead of it 0; who bakes has as much flour again behind the DAY. */
    private static String tellingIn(int day) {
        return "loaf 5;house a flour 50 salt 0;house b flour 50 salt 0;feud a with b hate 1;grows 5;tastes flour*(day/"
                + day + ");";
    }

    @Says(in = "III", text = "SEEN are rows of a DAY AHEAD (0 .. 30; 0 is the next one), a HOUSE, how the loaf that it eats in it "
            + "TASTES (255: it eats none):")
    static void seen() {
        EnemyBread e = of(tellingIn(30));
        due("DAY 31", put(e, 31, 1, 50).see(), NONE);
        due("DAY 255", put(e, 255, 1, 50).see(), NONE);
        due("DAY 30", put(e, 30, 1, 50).see(), 1);
        due("flour by it", e.flour(0, 0), 1);
        due("flour by it", e.flour(0, 1), 50);
        due("DAY 29", put(e, 29, 1, 50).see(), 1);
        due("flour by it", e.flour(0, 0), 0);
        // In the next DAY those with less than 5 of flour do not bake.
        due("DAY 0", put(e, 0, 1, 0).see(), 1);
        due("flour by it", e.flour(0, 1), 5);
        due("it eats none", put(e, 0, 1, 255).see(), 1);
        due("flour by it", e.flour(0, 0), 5);
        due("flour by it", e.flour(0, 2), 4);
        due("house 1", put(e, 0, 1, 99).see(), 1);
        due("house 2", put(e, 0, 2, 99).see(), NONE);
        due("taste 100", put(e, 0, 1, 100).see(), NONE);
        due("taste 254", put(e, 0, 1, 254).see(), NONE);
        // Rows are told from now on: DAY 1 is the next one behind a DAY.
        EnemyBread later = of(tellingIn(30));
        later.days(29);
        put(later, 1, 1, 50).see();
        due("from now on", later.flour(0, 0), 1);
        later.days(1);
        put(later, 0, 1, 50).see();
        due("from now on", later.flour(0, 1), 50);
    }

    @Says(in = "III", text = "FLOUR is what a told HOUSE that is there can have now (0 .. 99), so that all is so.")
    static void flours() {
        EnemyBread e = of(PAIR + "tastes flour;");
        due("least", e.flour(0, 1), 0);
        due("greatest", e.flour(0, 2), 99);
        due("how many", e.flour(0, 0), 100);
        put(e, 0, 1, 99).see();
        due("99", e.flour(0, 1), 99);
        put(e, 0, 1, 255).see();
        due("0 to 4", e.flour(0, 1), 0);
        // 20 and then, 5 less and 1 more, 16: all rows must be so.
        put(e, 0, 1, 20, 1, 1, 16).see();
        due("both", e.flour(0, 0), 1);
        put(e, 0, 1, 20, 1, 1, 17).see();
        due("not both", e.flour(0, 0), 0);
        put(e, 0, 1, 20, 0, 1, 21).see();
        due("not both of one DAY", e.flour(0, 0), 0);
        put(e, 0, 1, 20, 0, 1, 20).see();
        due("one row twice", e.flour(0, 0), 1);
        // b has 20, and so a tastes 20, whatever a has.
        put(e, 0, 0, 20, 0, 1, 33).see();
        due("rows of two houses", e.flour(0, 0), 1);
        due("rows of two houses", e.flour(0, 1), 33);
        put(e, 0, 0, 21, 0, 1, 33).see();
        due("rows of two houses, one not so", e.flour(0, 0), 0);
        int[] sixteen = new int[48];
        for (int i = 0; i < 16; i++) {
            sixteen[3 * i + 2] = 20;
        }
        put(e, sixteen).see();
        due("16 rows", e.flour(0, 0), 100);
        sixteen[47] = 21;
        put(e, sixteen).see();
        due("the 16th not so", e.flour(0, 0), 0);
        EnemyBread gone = at(PAIR, 0, new int[] {1, 20, 0, 0, 20, 0}, 0);
        due("one that is not there", gone.flour(1, 0), NONE);
        due("one that is", gone.flour(0, 0), 100);
    }

    private static void telling(EnemyBread e, int house, int... row) {
        for (int what = 0; what < 3; what++) {
            due("tells(" + house + ", " + what + ")", e.tells(house, what), row[what]);
        }
    }

    @Says(in = "III", text = "TELLING is the DAY AHEAD (0 .. 30), the HOUSE, by whose loaf's taste, whatever it is, or none, the most of "
            + "these left are fewest;")
    static void tellings() {
        // In DAY 30 b tastes the flour of a; who had 0 to 4 has had no loaf less, and 5 more: 2 are alike at most.
        telling(of(tellingIn(30)), 0, 30, 1, 2);
        telling(of(tellingIn(29)), 0, 29, 1, 2);
        EnemyBread both = of(tellingIn(30));
        telling(both, 1, 30, 0, 2);
        telling(both, 0, 30, 1, 2);
        telling(both, 1, 30, 0, 2);
        both.feud(0, 1, 0);
        telling(both, 1, 0, 0, 100);
        both.undo();
        telling(both, 1, 30, 0, 2);
        // Then in no DAY up to 30: none in the next DAY for 0 to 4, else 0.
        telling(of(tellingIn(31)), 0, 0, 1, 95);
        // Of those that are left alone.
        EnemyBread e = of(tellingIn(31));
        put(e, 0, 1, 255).see();
        telling(e, 0, 0, 0, 5);
        // In DAY 900 and behind, b tastes the flour of a each DAY; but in the first one 0 to 4 are none.
        telling(at(tellingIn(900), 997, new int[] {1, 50, 0, 1, 50, 0}, 1), 0, 1, 1, 2);
        telling(at(tellingIn(900), 998, new int[] {1, 50, 0, 1, 50, 0}, 1), 0, 0, 1, 5);
        telling(at(tellingIn(900), 999, new int[] {1, 50, 0, 1, 50, 0}, 1), 0, NONE, NONE, NONE);
    }

    @Says(in = "III", text = "of like ones the first, DAY by DAY.")
    static void firstTelling() {
        // Nothing tells anything of c's flour, which bakes for nobody: the next DAY, the first house.
        telling(of(houses(3) + "feud a with b hate 1;"), 2, 0, 0, 100);
        // Each DAY tells as much: the next one; of two who taste by turns the first.
        telling(of("loaf 1;house a flour 9 salt 0;house b flour 9 salt 0;house c flour 0 salt 0;feud a with b hate 1;"
                + "feud a with c hate 1;tastes flour;grows 0;"), 0, 0, 1, 1);
        EnemyBread gone = at(houses(2), 0, new int[] {0, 0, 0, 1, 20, 0}, 0);
        telling(gone, 1, 0, 0, 100);
    }

    @Says(in = "IV", text = "most SUM, least SUM (the greatest, the least of all; 0 without such).")
    static void mostAndLeast() {
        EnemyBread e = of(houses(4));
        asks(e, "most salt", 4);
        asks(e, "least salt", 1);
        asks(e, "most 0-salt", -1);
        asks(e, "least 0-salt", -4);
        asks(e, "most 1000*1000+salt", 1000000);
        asks(e, "least 0-1000*1000-salt", -1000000);
        for (EnemyBread none : new EnemyBread[] {of("loaf 5;"), at(houses(1), 0, new int[] {0, 1, 0})}) {
            asks(none, "most 5", 0);
            asks(none, "least 5", 0);
            asks(none, "most 0-5", 0);
            asks(none, "least 0-5", 0);
            asks(none, "total 5", 0);
            asks(none, "often all", 0);
            asks(none, "first all", NONE);
            asks(none, "last all", NONE);
        }
    }

    @Says(in = "IV", text = "(The HOUSE's number; how many ENEMIES it has; how it hates the HOUSE of that number, 0 without a feud; how a "
            + "loaf would taste that one would bake for it now, -1 if it is no ENEMY.)")
    static void factsOfQuestions() {
        EnemyBread e = of(houses(3) + "feud a with b hate 4;feud a with c hate 9;tastes salt*10+hate;");
        asks(of(houses(2) + "feud a with b hate 1;"), "total hate 0*10+tastes 0", 10 + 1 - 1);
        asks(e, "least number", 0);
        asks(e, "most number", 2);
        asks(e, "most feuds", 2);
        asks(e, "least feuds", 1);
        for (String none : new String[] {"3", "7", "9999", "(0-1)", "(0-1000*1000)", "number"}) {
            asks(e, "most hate " + none, 0);
            asks(e, "least hate " + none, 0);
            asks(e, "most tastes " + none, -1);
            asks(e, "least tastes " + none, -1);
        }
        asks(e, "most hate 0", 9);
        asks(e, "least hate 0", 0);
        asks(e, "total hate 2", 9);
        // a's loaf for b and c: 14 and 19; b's and c's for a: 24 and 39; a for itself, b and c for one another: -1.
        asks(e, "total tastes 0", 14 + 19 - 1);
        asks(e, "total tastes 1", 24 - 2);
        asks(e, "total tastes 2", 39 - 2);
        asks(of(PAIR + "tastes 100;"), "most tastes 0", 99);
        asks(of(PAIR + "tastes 0-100;"), "most tastes 0", 0);
        EnemyBread poor = at(PAIR, 0, new int[] {1, 0, 0, 1, 0, 0}, 4);
        asks(poor, "most tastes 0", 1);
        EnemyBread gone = at(PAIR, 0, new int[] {1, 20, 0, 0, 20, 0}, 0);
        asks(gone, "most hate 1", 0);
        asks(gone, "most tastes 1", -1);
        asks(gone, "most feuds", 0);
    }

    private static void written(EnemyBread e, int... bytes) {
        due("image()", e.image(), bytes.length);
        for (int k = 0; k < bytes.length; k++) {
            due("octet(" + k + ")", e.octet(k), bytes[k]);
        }
    }

    @Says(in = "IV", text = "AN IMAGE: DAY (two bytes, the higher first); for each HOUSE 1 if it is there, else 0, its flour, how hungry "
            + "it is; for each pair of HOUSES (the less number first, rising) its hate;")
    static void images() {
        for (int day : new int[] {0, 1, 255, 256, 257, 998, 999}) {
            EnemyBread e = at(houses(3), day, new int[] {1, 99, 9, 0, 0, 0, 1, 1, 1}, 0, 99, 0);
            int[] want = withLast(day >> 8, day & 255, 1, 99, 9, 0, 0, 0, 1, 1, 1, 0, 99, 0, 0);
            written(e, want);
        }
        EnemyBread four = of(houses(4) + "feud d with c hate 6;feud a with b hate 1;feud d with b hate 5;feud a with c hate 2;"
                + "feud b with c hate 4;feud a with d hate 3;");
        written(four, withLast(0, 0, 1, 20, 0, 1, 20, 0, 1, 20, 0, 1, 20, 0, 1, 2, 3, 4, 5, 6, 0));
        due("seven houses", of(houses(7)).image(), 2 + 21 + 21 + 1);
        due("one house", of(houses(1)).image(), 6);
    }

    @Says(in = "IV", text = "last a byte: all ahead from 233 on, c = (3 c + it) mod 251.")
    static void lastByte() {
        // Of two bytes 0: 233 * 3 = 699, less 2 * 251 is 197; 197 * 3 = 591, less 2 * 251 is 89.
        written(of("loaf 5;"), 0, 0, 89);
        // Then 89 * 3 + 1 = 268: 17; 17 * 3 + 20 = 71; 71 * 3 + 0 = 213.
        written(of(houses(1)), 0, 0, 1, 20, 0, 213);
        EnemyBread e = of("loaf 5;");
        for (int last = 0; last < 256; last++) {
            due("last byte " + last, put(e, 0, 0, last).on(), last == 89);
        }
    }

    @Says(in = "The constants", text = "`NONE = -1`: There is none; it is refused.")
    static void none() {
        due("NONE", EnemyBread.NONE, -1);
        due("there is none", new EnemyBread().house(0, 0), -1);
        due("it is refused", new EnemyBread().days(1), -1);
    }

    @Says(in = "The constants", text = "`NOTHING = -1000000000000000L`: Told where a number below 0 may be one.")
    static void nothing() {
        due("NOTHING", EnemyBread.NOTHING, -1000000000000000L);
        due("ask()", new EnemyBread().ask(), -1000000000000000L);
        asks(of(houses(1)), "total 0-1", -1);
    }

    public static void main(String[] args) throws Exception {
        run(SearchBoundaryTest.class, args, "III", "IV", "The constants");
    }
}
