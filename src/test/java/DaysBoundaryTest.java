/** The edges of DAYS, ACTS and DRAWS: each sentence of terms II that names one. */
public final class DaysBoundaryTest extends Sentences {
    private static final String PAIR = houses(2) + "feud a with b hate 4;";

    @Says(in = "II", text = "At first all HOUSES are there, nobody is hungry; it is DAY 0.")
    static void atFirst() {
        EnemyBread e = of(houses(7));
        due("there", e.has(3), 7);
        for (int house = 0; house < 7; house++) {
            due("there", e.house(house, 3), 1);
            due("hungry", e.house(house, 2), 0);
        }
        due("DAY", e.has(2), 0);
        due("without houses", of("loaf 5;").has(3), 0);
        e.days(9);
        due("duchy()", put(e, houses(7)).duchy(), 8);
        due("there again", e.has(3), 7);
        due("not hungry again", e.house(6, 2), 0);
        due("DAY again", e.has(2), 0);
    }

    @Says(in = "II", text = "ENEMIES are two HOUSES that are there, with a feud (its hate is above 0).")
    static void enemies() {
        EnemyBread e = of(houses(3) + "feud a with b hate 1;");
        due("enemies of a", e.house(0, 4), 1);
        due("enemies of c", e.house(2, 4), 0);
        due("taste", e.taste(0, 1), 1);
        due("taste", e.taste(0, 2), NONE);
        e.feud(0, 1, 0);
        due("enemies of a, behind its end", e.house(0, 4), 0);
        due("taste, behind its end", e.taste(0, 1), NONE);
        EnemyBread gone = of(PAIR + "starves salt=2;");
        gone.days(1);
        due("enemies of one that is there", gone.house(0, 4), 0);
        due("enemies of one that is gone", gone.house(1, 4), 0);
    }

    @Says(in = "II", text = "FIRST HOUSE by HOUSE that is there eats:")
    static void houseByHouse() {
        String star = houses(3) + "feud a with c hate 1;feud b with c hate 9;";
        EnemyBread e = of(star);
        due("the first one eats", e.baker(0), 2);
        due("the second one does not", e.baker(1), NONE);
        EnemyBread gone = at(star, 0, new int[] {0, 20, 3, 1, 20, 0, 1, 20, 0}, 0, 0, 9);
        due("one that is gone", gone.baker(0), NONE);
        due("the first one that is there", gone.baker(1), 2);
        due("loaves", gone.days(1), 2);
        due("one that is gone is no hungrier", gone.house(0, 2), 3);
    }

    @Says(in = "II", text = "of its ENEMIES that have as much flour as is in a loaf")
    static void asMuchFlour() {
        due("as much", at(PAIR, 0, new int[] {1, 0, 0, 1, 5, 0}, 4).baker(0), 1);
        due("1 less", at(PAIR, 0, new int[] {1, 0, 0, 1, 4, 0}, 4).baker(0), NONE);
        due("none", at(PAIR, 0, new int[] {1, 0, 0, 1, 0, 0}, 4).baker(0), NONE);
        String great = "loaf 20;house a flour 0 salt 0;house b flour 20 salt 0;feud a with b hate 1;";
        due("20", of(great).baker(0), 1);
        due("19", of(great.replace("flour 20", "flour 19")).baker(0), NONE);
        due("1", of(great.replace("loaf 20", "loaf 1").replace("flour 20", "flour 1")).baker(0), 1);
        due("no enemy", of(houses(2)).baker(0), NONE);
    }

    @Says(in = "II", text = "and have not baked in this DAY")
    static void notTwice() {
        EnemyBread e = of(houses(3) + "feud a with c hate 1;feud b with c hate 1;");
        due("c for a", e.baker(0), 2);
        due("not for b, too", e.baker(1), NONE);
        due("loaves", e.days(1), 2);
        due("one loaf less", e.house(2, 0), 16);
        due("b is hungry", e.house(1, 2), 1);
        due("in the next DAY again", e.days(1), 2);
        due("c for a again", e.kept(2, 1), 2);
    }

    @Says(in = "II", text = "the one bakes for it by which the SUM of bakes is most, of like ones the first")
    static void byMost() {
        String three = houses(3) + "feud a with b hate 3;feud a with c hate 4;";
        due("most hate", of(three).baker(0), 2);
        due("least hate", of(three + "bakes 0-hate;").baker(0), 1);
        due("like ones", of(three + "bakes 7;").baker(0), 1);
        due("like ones at the limit", of(three + "bakes hate*9999*9999;").baker(0), 1);
        due("like ones below", of(three + "bakes 0-hate*9999*9999;").baker(0), 1);
        due("1 more", of(three + "bakes hate/4;").baker(0), 2);
        due("below 0", of(three + "bakes hate-9;").baker(0), 2);
        due("one alone, whatever its sum is", of(PAIR + "bakes 0-1000*1000;").baker(0), 1);
    }

    @Says(in = "II", text = "that one has so much flour less, this one is not hungry (0)")
    static void eaten() {
        EnemyBread e = at(PAIR + "grows 0;", 0, new int[] {1, 4, 9, 1, 5, 0}, 4);
        due("loaves", e.days(1), 1);
        due("flour of the one that bakes", e.house(1, 0), 0);
        due("flour of the one that eats", e.house(0, 0), 4);
        due("not hungry", e.house(0, 2), 0);
    }

    @Says(in = "II", text = "if there is none, it is 1 hungrier (9 at most)")
    static void hungrier() {
        EnemyBread e = at(houses(1) + "starves not all;", 0, new int[] {1, 20, 7});
        e.days(1);
        due("8", e.house(0, 2), 8);
        e.days(1);
        due("9", e.house(0, 2), 9);
        e.days(1);
        due("9 at most", e.house(0, 2), 9);
        due("9 ahead, too", e.later(0, 60, 1), 9);
    }

    @Says(in = "II", text = "A loaf TASTES as the SUM of tastes tells, 0 .. 99 (below is 0, above 99), by what is so ahead of it.")
    static void tastesOfLoaves() {
        String[] sums = {"0-1", "0", "1", "99", "100", "1000*1000", "0-1000*1000", "flour", "hunger", "hate", "day"};
        int[] tastes = {0, 0, 1, 99, 99, 99, 0, 21, 3, 4, 8};
        for (int i = 0; i < sums.length; i++) {
            EnemyBread e = at(PAIR + "cools 1;tastes " + sums[i] + ";", 8, new int[] {1, 4, 3, 1, 21, 0}, 4);
            due("taste of " + sums[i], e.taste(1, 0), tastes[i]);
            due("loaves", e.days(1), 1);
            due("kept of " + sums[i], e.kept(0, 3), tastes[i]);
        }
    }

    @Says(in = "II", text = "THEN each HOUSE for which the TEST of starves holds is gone for good, its feuds are over (hate 0).")
    static void gone() {
        EnemyBread e = of(houses(3) + "feud a with b hate 4;feud a with c hate 3;starves day=0 and salt=2;cools 7;");
        due("loaves", e.days(1), 2);
        due("gone", e.house(1, 3), 0);
        due("its feud is over", e.hate(0, 1), 0);
        due("its feud is over", e.hate(1, 0), 0);
        due("another feud is not", e.hate(0, 2), 7);
        int flour = e.house(1, 0);
        e.days(9);
        due("gone for good", e.house(1, 3), 0);
        due("it has no more flour", e.house(1, 0), flour);
        due("there", e.has(3), 2);
        EnemyBread hungry = of(houses(1) + "starves hunger>0;");
        hungry.days(1);
        due("by how hungry it is then", hungry.has(3), 0);
        EnemyBread less = of(PAIR + "starves flour<16;");
        less.days(1);
        due("by the flour it has then", less.has(3), 0);
        EnemyBread more = of(PAIR + "starves flour<15;");
        more.days(1);
        due("ahead of what grows", more.has(3), 2);
        EnemyBread all = of(houses(7) + "starves all;");
        all.days(1);
        due("all at once", all.has(3), 0);
    }

    @Says(in = "II", text = "THEN each feud (of two that are there) is as hateful as the SUM of cools tells, 0 .. 99 "
            + "(below is 0: it is over; above 99).")
    static void feudsCool() {
        String[] sums = {"0-1000*1000", "0-1", "0", "1", "98", "99", "100", "1000*1000", "hate", "hate+day", "loaves"};
        int[] hates = {0, 0, 0, 1, 98, 99, 99, 99, 4, 6, 2};
        for (int i = 0; i < sums.length; i++) {
            EnemyBread e = at(houses(3) + "cools " + sums[i] + ";", 2,
                    new int[] {1, 20, 0, 1, 20, 0, 1, 20, 0}, 4, 0, 0);
            e.days(1);
            due("cools " + sums[i], e.hate(0, 1), hates[i]);
            due("no feud comes by it", e.hate(0, 2), 0);
            due("feuds", e.has(4), hates[i] > 0 ? 1 : 0);
        }
        due("over is over", of(PAIR + "cools day*9;").cooled(0, 1, 5), 0);
        due("one that is gone has none", of(PAIR + "cools 9;starves salt=1;").cooled(0, 1, 1), 0);
    }

    @Says(in = "II", text = "THEN each HOUSE that is there has as much flour as it has and the SUM of grows tells together, 0 .. 99 "
            + "(below is 0, above 99).")
    static void flourGrows() {
        String[] sums = {"0-1000*1000", "0-21", "0-20", "0-19", "0", "78", "79", "80", "1000*1000", "flour", "hunger", "day"};
        int[] flours = {0, 0, 0, 1, 20, 98, 99, 99, 99, 40, 24, 26};
        for (int i = 0; i < sums.length; i++) {
            EnemyBread e = at(houses(2) + "grows " + sums[i] + ";", 6, new int[] {1, 20, 3, 0, 20, 0}, 0);
            e.days(1);
            due("grows " + sums[i], e.house(0, 0), flours[i]);
            due("one that is gone", e.house(1, 0), 20);
        }
        due("by the flour it has then", of(PAIR + "grows flour;").later(0, 1, 0), 30);
        due("not of one that is gone just now", of(houses(1) + "starves all;").later(0, 1, 0), 20);
    }

    @Says(in = "II", text = "The DAY is one more (999 at most).")
    static void lastDay() {
        EnemyBread e = at(PAIR, 997, new int[] {1, 20, 0, 1, 20, 0}, 4);
        due("days(1)", e.days(1), 2);
        due("DAY", e.has(2), 998);
        due("days(1)", e.days(1), 2);
        due("DAY", e.has(2), 999);
        due("days(1) of the last DAY", e.days(1), NONE);
        due("chance(1) of the last DAY", e.chance(1), NONE);
        due("DAY", e.has(2), 999);
        due("flour", e.house(0, 0), 12);
        EnemyBread all = of("loaf 5;");
        for (int i = 1; i < 10; i++) {
            due("days(100)", all.days(100), 0);
            due("DAY", all.has(2), 100 * i);
        }
        due("beyond 999", all.days(100), NONE);
        due("to 999", all.days(99), 0);
        due("DAY", all.has(2), 999);
    }

    @Says(in = "II", text = "ACTS: two HOUSES that are there have a feud of another hate (0: none); a HOUSE that is there has other "
            + "flour; DAYS; DAYS by the seed")
    static void acts() {
        EnemyBread e = of(PAIR);
        e.feud(0, 1, 5);
        due("a feud", e.has(8), 1);
        e.feud(0, 1, 0);
        due("none", e.has(8), 2);
        e.bring(0, 0);
        due("flour", e.has(8), 3);
        e.days(100);
        due("DAYS", e.has(8), 4);
        e.chance(100);
        due("DAYS by the seed", e.has(8), 5);
        e.feud(0, 1, 0);
        e.bring(0, 100);
        e.days(0);
        e.chance(0);
        e.seed(5);
        e.seed(-5);
        put(e, 0, 0, 255).see();
        e.image();
        put(e, "often all").ask();
        put(e, "x").duchy();
        put(e, "x").on();
        due("nothing else", e.has(8), 5);
    }

    /** A seed by which a famine strikes one of two houses. */
    private static int seedThatStrikes(int house) {
        for (int seed = 0; seed < 100; seed++) {
            x = seed;
            draw(100);
            if (draw(2) == house) {
                return seed;
            }
        }
        return NONE;
    }

    @Says(in = "II", text = "ahead of each a DRAW of 100: below famine, if there are HOUSES")
    static void drawsOfHundred() {
        for (int seed = 0; seed < 30; seed++) {
            x = seed;
            int drawn = draw(100);
            due("a draw that is famine", famines(houses(1) + "famine " + drawn + ";", seed), 0);
            due("a draw below famine", famines(houses(1) + "famine " + (drawn + 1) + ";", seed), 1);
        }
        // Without houses there is one draw of 100 each, and no other.
        EnemyBread none = of("loaf 5;famine 100;");
        due("without houses", none.chance(3), 0);
        x = 1;
        draw(100);
        draw(100);
        draw(100);
        int fourth = draw(100);
        due("duchy()", put(none, houses(1) + "famine " + fourth + ";").duchy(), 3);
        due("the fourth draw", none.chance(1), 0);
        EnemyBread more = of("loaf 5;famine 100;");
        more.chance(3);
        due("duchy()", put(more, houses(1) + "famine " + (fourth + 1) + ";").duchy(), 3);
        due("the fourth draw", more.chance(1), 1);
        // Ahead of the DAY: 9 of flour are then no more enough for a loaf of 5, 10 still are.
        EnemyBread nine = at(PAIR + "famine 100;", 0, new int[] {1, 0, 0, 1, 9, 0}, 4);
        nine.seed(seedThatStrikes(1));
        nine.chance(1);
        due("loaves of 9", nine.has(6), 0);
        EnemyBread ten = at(PAIR + "famine 100;", 0, new int[] {1, 0, 0, 1, 10, 0}, 4);
        ten.seed(seedThatStrikes(1));
        ten.chance(1);
        due("loaves of 10", ten.has(6), 1);
    }

    private static int famines(String duchy, int seed) {
        EnemyBread e = of(duchy);
        e.seed(seed);
        return e.chance(1);
    }

    @Says(in = "II", text = "a DRAW of all of these, gone ones, too: that one has half its flour (rounded down).")
    static void struckByFamine() {
        int[] flours = {0, 1, 2, 3, 9, 98, 99};
        for (int flour : flours) {
            EnemyBread e = at(houses(1) + "grows 0;famine 100;", 0, new int[] {1, flour, 0});
            due("famines", e.chance(1), 1);
            due("half of " + flour, e.house(0, 0), flour / 2);
        }
        for (int there = 0; there < 2; there++) {
            EnemyBread e = at(houses(3) + "grows 0;starves not all;famine 100;", 0,
                    new int[] {there, 97, 0, there, 98, 0, there, 99, 0}, 0, 0, 0);
            int[] left = {97, 98, 99};
            x = 5;
            e.seed(5);
            for (int i = 0; i < 6; i++) {
                draw(100);
                left[draw(3)] /= 2;
                due("famines", e.chance(1), 1);
                for (int house = 0; house < 3; house++) {
                    due("flour of " + house + ", there " + there, e.house(house, 0), left[house]);
                }
            }
        }
    }

    @Says(in = "II", text = "The last 20 can be undone.")
    static void lastTwenty() {
        EnemyBread e = of(PAIR);
        for (int i = 1; i <= 20; i++) {
            e.bring(0, 20 + i);
            due("acts", e.has(8), i);
        }
        e.bring(0, 41);
        due("acts", e.has(8), 20);
        for (int i = 20; i >= 1; i--) {
            due("undo()", e.undo(), true);
            due("flour", e.house(0, 0), 20 + i);
            due("acts", e.has(8), i - 1);
        }
        due("undo() of the 21st", e.undo(), false);
        due("flour", e.house(0, 0), 21);
        EnemyBread twenty = of(PAIR);
        for (int i = 1; i <= 20; i++) {
            twenty.bring(0, 20 + i);
        }
        for (int i = 1; i <= 20; i++) {
            due("undo()", twenty.undo(), true);
        }
        due("flour as at first", twenty.house(0, 0), 20);
        due("undo()", twenty.undo(), false);
    }

    @Says(in = "II", text = "KEPT is each loaf: DAY, who baked, who ate, how it TASTED; the last 40 are told.")
    static void lastForty() {
        // b alone has flour, and bakes for a, DAY by DAY.
        EnemyBread e = of("loaf 9;house a flour 0 salt 0;house b flour 99 salt 1;feud a with b hate 5;"
                + "grows salt*99;starves not all;tastes day;");
        due("39 loaves", e.days(39), 39);
        due("has(6)", e.has(6), 39);
        due("kept(39, 0)", e.kept(39, 0), NONE);
        due("one loaf", e.days(1), 1);
        due("has(6)", e.has(6), 40);
        loafOfDay(e, 0, 0);
        loafOfDay(e, 39, 39);
        due("kept(40, 0)", e.kept(40, 0), NONE);
        due("one loaf", e.days(1), 1);
        due("has(6)", e.has(6), 40);
        loafOfDay(e, 0, 1);
        loafOfDay(e, 38, 39);
        loafOfDay(e, 39, 40);
        due("kept(40, 0)", e.kept(40, 0), NONE);
        due("58 loaves", e.days(58), 58);
        loafOfDay(e, 0, 59);
        loafOfDay(e, 39, 98);
    }

    private static void loafOfDay(EnemyBread e, int k, int day) {
        int[] loaf = {day, 1, 0, day};
        for (int what = 0; what < 4; what++) {
            due("kept(" + k + ", " + what + ")", e.kept(k, what), loaf[what]);
        }
    }

    @Says(in = "II", text = "A DRAW of m: x (the seed) becomes (1103515245 x + 12345) mod 2 to the 31; floor(x / 64) mod m.")
    static void draws() {
        for (int seed : new int[] {0, 1, 2, 63, 64, 65, 1 << 30, Integer.MAX_VALUE - 1, Integer.MAX_VALUE}) {
            EnemyBread e = of(houses(7) + "famine 50;grows 0;starves not all;");
            e.seed(seed);
            x = seed;
            int[] left = {20, 20, 20, 20, 20, 20, 20};
            for (int i = 0; i < 20; i++) {
                int famine = draw(100) < 50 ? 1 : 0;
                if (famine == 1) {
                    left[draw(7)] /= 2;
                }
                due("famine " + i + " of seed " + seed, e.chance(1), famine);
            }
            for (int house = 0; house < 7; house++) {
                due("flour of " + house + " by seed " + seed, e.house(house, 0), left[house]);
            }
        }
    }

    public static void main(String[] args) throws Exception {
        run(DaysBoundaryTest.class, args, "II");
    }
}
