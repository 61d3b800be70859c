/** The edges of the two languages: each sentence of terms I that names one, and those of IV on questions' texts. */
public final class TextBoundaryTest extends Sentences {
    private static final String[] OWN_WORDS = {"loaf", "house", "flour", "salt", "feud", "with", "hate", "bakes",
        "tastes", "starves", "cools", "grows", "famine", "day", "hunger", "loaves", "number", "feuds", "or", "and",
        "not", "all", "min", "max"};
    private static final String[] RULES = {"bakes 1;", "tastes 1;", "starves all;", "cools 1;", "grows 1;"};

    @Says(in = "I", text = "A DUCHY is a text: { STATEMENT ; } (60 at most)")
    static void sixtyStatements() {
        fine("loaf 5;", 1);
        fine("loaf 5;" + "famine 1;".repeat(59), 60);
        fine("loaf 5;" + "famine 1;".repeat(59) + " \n", 60);
        faulty("loaf 5;" + "famine 1;".repeat(59) + "^famine 1;", 5);
        faulty("loaf 5;famine 1^", 1);
        faulty("loaf 5;^;", 1);
    }

    @Says(in = "I", text = "loaf N (1 .. 20 of flour")
    static void flourOfALoaf() {
        faulty("loaf ^0;", 2);
        due("has(0)", of("loaf 1;").has(0), 1);
        due("has(0)", of("loaf 20;").has(0), 20);
        faulty("loaf ^21;", 2);
        faulty("loaf ^9999;", 2);
    }

    @Says(in = "I", text = "the first STATEMENT, and it alone)")
    static void loafFirstAndAlone() {
        faulty("^house a flour 1 salt 1;loaf 5;", 1);
        faulty("^famine 1;", 1);
        faulty("^;", 1);
        faulty("^;loaf 5;", 1);
        faulty("loaf 5;^loaf 5;", 1);
        faulty("loaf 5;famine 1;^loaf", 1);
    }

    @Says(in = "I", text = "house NAME flour N salt N (0 .. 99; 0 .. 9; 7 HOUSES)")
    static void numbersOfHouses() {
        EnemyBread e = of("loaf 5;house a flour 0 salt 0;house b flour 99 salt 9;");
        due("house(0, 0)", e.house(0, 0), 0);
        due("house(0, 1)", e.house(0, 1), 0);
        due("house(1, 0)", e.house(1, 0), 99);
        due("house(1, 1)", e.house(1, 1), 9);
        faulty("loaf 5;house a flour ^100 salt 0;", 2);
        faulty("loaf 5;house a flour 0 salt ^10;", 2);
        fine("loaf 5;", 1);
        fine(houses(7), 8);
        due("has(1)", of(houses(7)).has(1), 7);
        faulty(houses(7) + "^house h flour 1 salt 1;", 5);
    }

    @Says(in = "I", text = "feud NAME with NAME hate N (two unlike HOUSES that have none yet; 1 .. 99)")
    static void numbersOfFeuds() {
        faulty(houses(2) + "feud a with b hate ^0;", 2);
        due("hate(0, 1)", of(houses(2) + "feud a with b hate 1;").hate(0, 1), 1);
        due("hate(1, 0)", of(houses(2) + "feud a with b hate 99;").hate(1, 0), 99);
        faulty(houses(2) + "feud a with b hate ^100;", 2);
        faulty(houses(2) + "feud b with ^b hate 1;", 3);
        faulty(houses(2) + "feud a with b hate 1;feud a with ^b hate 1;", 3);
        faulty(houses(2) + "feud a with b hate 1;feud b with ^a hate 1;", 3);
        StringBuilder all = new StringBuilder(houses(7));
        for (char c = 'a'; c <= 'g'; c++) {
            for (char d = (char) (c + 1); d <= 'g'; d++) {
                all.append("feud ").append(d).append(" with ").append(c).append(" hate 1;");
            }
        }
        due("each pair has one", of(all.toString()).has(4), 21);
    }

    @Says(in = "I", text = "bakes SUM, tastes SUM, starves TEST, cools SUM, grows SUM (one each)")
    static void oneOfEachRule() {
        fine("loaf 5;" + String.join("", RULES), 6);
        for (String rule : RULES) {
            fine("loaf 5;" + rule, 2);
            faulty("loaf 5;" + rule + "famine 1;^" + rule, 5);
        }
        for (String rule : new String[] {"bakes", "tastes", "cools", "grows"}) {
            faulty("loaf 5;" + rule + " ^all;", 1);
            faulty("loaf 5;" + rule + " 1^<2;", 1);
        }
        faulty("loaf 5;starves 1^;", 1);
    }

    @Says(in = "I", text = "famine N (0 .. 100; the last one counts, 0 without)")
    static void famines() {
        due("0", of(houses(1) + "famine 0;").chance(100), 0);
        due("100", of(houses(1) + "famine 100;").chance(100), 100);
        faulty(houses(1) + "famine ^101;", 2);
        due("the last one", of(houses(1) + "famine 0;famine 3;famine 100;").chance(100), 100);
        due("the last one", of(houses(1) + "famine 100;famine 3;famine 0;").chance(100), 0);
        due("without", of(houses(1)).chance(100), 0);
        EnemyBread e = of(houses(1) + "famine 100;");
        due("duchy()", put(e, houses(1)).duchy(), 2);
        due("without, behind one with", e.chance(100), 0);
        due("duchy()", put(e, houses(1)).duchy(), 2);
        due("without, behind two", e.chance(100), 0);
        // A seed by which the first draw is 0: even that is not below 0.
        x = 1;
        long seed = 1;
        while (draw(100) > 0) {
            seed = x;
        }
        EnemyBread none = of(houses(1));
        none.seed((int) seed);
        due("without, by a draw of 0", none.chance(1), 0);
        EnemyBread one = of(houses(1) + "famine 1;");
        one.seed((int) seed);
        due("1, by a draw of 0", one.chance(1), 1);
    }

    @Says(in = "I", text = "TEST: BOTH { or BOTH }. BOTH: FACT { and FACT }.")
    static void orAndAnd() {
        // By DAYS: the one in which a house is gone tells for which DAY the test first held.
        starvesAt("day=2 or day=0 and salt=9", 2);
        starvesAt("salt=9 and day=0 or day=3", 3);
        starvesAt("[day=2 or day=0] and salt=1", 0);
        starvesAt("day=5 or day=4 or day=1 and all", 1);
        starvesAt("day>2 and day>3 and day>1", 4);
        starvesAt("1<2 and 2>1 and 1=1 and all and [all] and not 1=2", 0);
        starvesAt("not [1<2 and 2>1 and 1=1] or day=3", 3);
        starvesAt("not [2<1 or 1>2 or 1=2 or not all]", 0);
        faulty("loaf 5;starves ^or all;", 1);
        faulty("loaf 5;starves all and ^and all;", 1);
        faulty("loaf 5;starves all or ^;", 1);
    }

    private static void starvesAt(String test, int day) {
        due("starves " + test, of(houses(1) + "starves " + test + ";").starves(0), day);
    }

    @Says(in = "I", text = "FACT: not FACT; [ TEST ] ; all; SUM SIGN SUM, SIGN < or > or = .")
    static void facts() {
        starvesAt("day>3", 4);
        starvesAt("not day<3", 3);
        starvesAt("day=3", 3);
        starvesAt("3<day", 4);
        starvesAt("all", 0);
        starvesAt("not not day>1", 2);
        starvesAt("not [not all or day<2]", 2);
        starvesAt("not day<2 and day>0", 2);
        starvesAt("not all", NONE);
        faulty("loaf 5;starves 1<2^<3;", 1);
        faulty("loaf 5;starves 1^!2;", 1);
        faulty("loaf 5;starves 1<^=2;", 1);
        faulty("loaf 5;starves [all^;", 1);
        faulty("loaf 5;starves all^];", 1);
        faulty("loaf 5;starves [^];", 1);
        faulty("loaf 5;starves (^all);", 1);
    }

    @Says(in = "I", text = "PART: N (1 to 4 digits)")
    static void digits() {
        tastes("7", 7);
        tastes("0007", 7);
        tastes("0000", 0);
        tastes("9999-9990", 9);
        faulty("loaf 5;tastes ^;", 1);
        faulty("loaf 5;tastes 1000^0;", 1);
        faulty("loaf 5;tastes 0000^7;", 1);
        fine("loaf 0020;", 1);
        faulty("loaf 0002^0;", 1);
    }

    @Says(in = "I", text = "SUM: PRODUCT { + or - PRODUCT }. PRODUCT: PART { * or / PART }.")
    static void sumsAndProducts() {
        tastes("2+3*4", 14);
        tastes("2*3+4", 10);
        tastes("20-6/2", 17);
        tastes("1" + "+1".repeat(98), 99);
        tastes("1" + "*1".repeat(700), 1);
        for (String sum : new String[] {"^+1", "^*1", "1+^+1", "1+^*1", "1*^*1", "1/^/1", "1 ^1", "(^)", "1+^", "1/^"}) {
            faulty("loaf 5;tastes " + sum + ";", 1);
        }
    }

    @Says(in = "I", text = "day; ( SUM ) ; min ( SUM , SUM ) ; max ( SUM , SUM )")
    static void leastAndMost() {
        tastes("min(3,4)", 3);
        tastes("min(4,3)", 3);
        tastes("min(4,4)", 4);
        tastes("max(3,4)", 4);
        tastes("max(4,3)", 4);
        tastes("50+min(0-3,0-4)", 46);
        tastes("50+max(0-3,0-4)", 47);
        tastes("max(1+1,min(9-2,2*3))*2", 12);
        tastes("((day))+(7)", 7);
        faulty("loaf 5;tastes min ^;", 1);
        faulty("loaf 5;tastes min ^1,2;", 1);
        faulty("loaf 5;tastes min(^,2);", 1);
        faulty("loaf 5;tastes max(1^;2);", 1);
        faulty("loaf 5;tastes (1^;", 1);
        faulty("loaf 5;tastes 1^);", 1);
    }

    @Says(in = "I", text = "in all but cools: flour; salt; hunger")
    static void factsOfHouses() {
        for (String word : new String[] {"flour", "salt", "hunger", "day"}) {
            for (String rule : new String[] {"bakes ", "tastes ", "grows "}) {
                fine("loaf 5;" + rule + word + ";", 2);
            }
            fine("loaf 5;starves " + word + "=" + word + ";", 2);
        }
        fine("loaf 5;cools day;", 2);
        faulty("loaf 5;cools ^flour;", 1);
        faulty("loaf 5;cools ^salt;", 1);
        faulty("loaf 5;cools hate+^hunger;", 1);
    }

    @Says(in = "I", text = "in bakes, tastes, cools: hate")
    static void hateOfFeuds() {
        fine("loaf 5;bakes hate;tastes hate;cools hate;", 4);
        faulty("loaf 5;grows ^hate;", 1);
        faulty("loaf 5;starves ^hate=1;", 1);
        faulty("loaf 5;starves 1=^hate;", 1);
    }

    @Says(in = "I", text = "in cools: loaves.")
    static void loavesOfFeuds() {
        fine("loaf 5;cools loaves;", 2);
        for (String rule : new String[] {"bakes ", "tastes ", "grows ", "starves "}) {
            faulty("loaf 5;" + rule + "^loaves;", 1);
        }
        for (String rule : new String[] {"bakes ", "tastes ", "grows ", "starves ", "cools "}) {
            faulty("loaf 5;" + rule + "^number;", 1);
            faulty("loaf 5;" + rule + "^feuds;", 1);
        }
    }

    @Says(in = "I", text = "in bakes, tastes of the one that bakes, its flour, its salt; how hungry it is, "
            + "in bakes, tastes the one that eats")
    static void whoseFacts() {
        String two = "loaf 5;house a flour 30 salt 3;house b flour 40 salt 4;feud a with b hate 9;tastes ";
        int[] houses = {1, 30, 1, 1, 40, 2};
        due("flour of b", at(two + "flour;", 0, houses, 9).taste(1, 0), 40);
        due("salt of b", at(two + "salt;", 0, houses, 9).taste(1, 0), 4);
        due("hunger of a", at(two + "hunger;", 0, houses, 9).taste(1, 0), 1);
        due("hate", at(two + "hate;", 0, houses, 9).taste(1, 0), 9);
        due("day", at(two + "day;", 7, houses, 9).taste(1, 0), 7);
        String three = houses(3) + "feud a with b hate 2;feud a with c hate 1;bakes ";
        due("flour of the one that bakes", at(three + "flour;", 0,
                new int[] {1, 9, 0, 1, 20, 0, 1, 21, 0}, 2, 1, 0).baker(0), 2);
        due("salt of the one that bakes", of(three + "salt;").baker(0), 2);
        due("hunger of the one that eats", at(three + "hunger*flour;", 0,
                new int[] {1, 9, 0, 1, 20, 5, 1, 21, 5}, 2, 1, 0).baker(0), 1);
    }

    @Says(in = "I", text = "how many loaves were baked by these two for one another in this DAY.")
    static void loavesOfTwo() {
        String cools = "cools loaves*10+1;";
        due("two", of(houses(2) + "feud a with b hate 4;" + cools).cooled(0, 1, 1), 21);
        due("one", at(houses(2) + cools, 0, new int[] {1, 4, 0, 1, 5, 0}, 4).cooled(0, 1, 1), 11);
        due("none", at(houses(2) + cools, 0, new int[] {1, 4, 0, 1, 4, 0}, 4).cooled(0, 1, 1), 1);
        // By most hate b bakes for a, c for b, and a, which alone is left, for c.
        EnemyBread ring = of(houses(3) + "feud a with b hate 9;feud b with c hate 10;feud a with c hate 1;" + cools);
        due("one of a ring", ring.cooled(0, 1, 1), 11);
        due("one of a ring", ring.cooled(1, 2, 1), 11);
        due("one of a ring", ring.cooled(0, 2, 1), 11);
        due("in this DAY", at(houses(2) + cools, 0, new int[] {1, 4, 0, 1, 5, 0}, 4).cooled(0, 1, 2), 11);
    }

    @Says(in = "I", text = "All from the left on;")
    static void fromTheLeft() {
        tastes("9-5-3", 1);
        tastes("8/4/2", 1);
        tastes("7/2*2", 6);
        tastes("2*7/4", 3);
        tastes("1+2*3", 7);
        tastes("(1+2)*3", 9);
        tastes("20-2*3-1", 13);
    }

    @Says(in = "I", text = "/ gives the greatest whole number not above, by 0 it gives 0;")
    static void quotients() {
        tastes("7/2", 3);
        tastes("50+(0-7)/2", 46);
        tastes("50+7/(0-2)", 46);
        tastes("50+(0-7)/(0-2)", 53);
        tastes("50+(0-8)/2", 46);
        tastes("50+(0-1)/9999", 49);
        tastes("50+1/9999", 50);
        tastes("50+9/0", 50);
        tastes("50+0/0", 50);
        tastes("50+(0-9)/(3-3)", 50);
    }

    @Says(in = "I", text = "each sum, difference, product above 10 to the 6 is that, below -10 to the 6 likewise.")
    static void limits() {
        // 1000*1000 is just 10 to the 6, 9999*100 is 100 less.
        tastes("1000*1000-9999*100-50", 50);
        tastes("50+(1000*1000+1-1000*1000)", 50);
        tastes("50+(9999*100+100-1000*1000)", 50);
        tastes("50+(1000*1000-(0-1)-1000*1000)", 50);
        tastes("1001*1000-9999*100-50", 50);
        tastes("1000*1000*9999-9999*100-50", 50);
        tastes("(1000*1000)*(1000*1000)-9999*100-50", 50);
        tastes("0-1000*1000+(0-1)+1000*1000+50", 50);
        tastes("0-1000*1000-1+1000*1000+50", 50);
        tastes("0-9999*100-100+1000*1000+50", 50);
        tastes("(0-1001)*1000+1000*1000+50", 50);
        tastes("(0-1000)*1000*9999+1000*1000+50", 50);
        tastes("(0-1000*1000)*(1000*1000)+9999*100+150", 50);
    }

    @Says(in = "I", text = "Without: bakes is hate, tastes is salt, starves is hunger > 5, cools is hate, grows is 1.")
    static void without() {
        EnemyBread e = of(houses(3) + "feud a with b hate 3;feud a with c hate 4;");
        due("bakes", e.baker(0), 2);
        due("tastes", e.taste(2, 0), 3);
        due("starves", of(houses(1)).starves(0), 5);
        due("starves at 5", at(houses(1), 0, new int[] {1, 20, 5}).starves(0), 0);
        due("starves at 4", at(houses(1), 0, new int[] {1, 20, 4}).starves(0), 1);
        due("cools", e.cooled(0, 2, 3), 4);
        due("grows", of(houses(1)).later(0, 3, 0), 23);
        EnemyBread told = of(houses(2) + "feud a with b hate 4;tastes 50;grows 9;cools 1;bakes 1;starves all;");
        due("duchy()", put(told, houses(2) + "feud a with b hate 4;").duchy(), 4);
        due("tastes, behind one with", told.taste(1, 0), 2);
        due("grows, behind one with", told.later(0, 1, 0), 16);
        due("cools, behind one with", told.cooled(0, 1, 1), 4);
        due("starves, behind one with", told.starves(0), NONE);
    }

    @Says(in = "I", text = "NAMES: 1 to 6 letters, no OWN WORD, unlike ones, told ahead of where they are asked.")
    static void names() {
        fine("loaf 5;house a flour 1 salt 1;house abcdef flour 1 salt 1;house abcdee flour 1 salt 1;"
                + "house abcde flour 1 salt 1;house z flour 1 salt 1;", 6);
        faulty("loaf 5;house ^flour 1 salt 1;", 1);
        faulty("loaf 5;house abcdef^g flour 1 salt 1;", 1);
        faulty("loaf 5;house ^day flour 1 salt 1;", 1);
        faulty("loaf 5;house abcdef flour 1 salt 1;house ^abcdef flour 1 salt 1;", 3);
        faulty("loaf 5;feud ^a with b hate 1;house a flour 1 salt 1;house b flour 1 salt 1;", 3);
        faulty(houses(1) + "feud a with ^b hate 1;house b flour 1 salt 1;", 3);
        fine("loaf 5;house abc flour 1 salt 1;house abd flour 1 salt 1;feud abd with abc hate 1;", 4);
        faulty("loaf 5;house abc flour 1 salt 1;feud ^ab with abc hate 1;", 3);
        faulty("loaf 5;house abc flour 1 salt 1;feud ^abcd with abc hate 1;", 3);
    }

    @Says(in = "I", text = "OWN WORDS: loaf, house, flour, salt, feud, with, hate, bakes, tastes, starves, cools, grows, "
            + "famine, day, hunger, loaves, number, feuds, or, and, not, all, min, max.")
    static void ownWords() {
        for (String word : OWN_WORDS) {
            faulty("loaf 5;house ^" + word + " flour 1 salt 1;", 1);
            faulty(houses(1) + "feud ^" + word + " with a hate 1;", 1);
            faulty(houses(1) + "feud a with ^" + word + " hate 1;", 1);
        }
        for (String word : new String[] {"first", "last", "often", "total", "most", "least", "in", "by", "n", "sum",
            "loa", "loafs", "starve", "nots", "feu"}) {
            fine("loaf 5;house " + word + " flour 1 salt 1;", 2);
        }
    }

    @Says(in = "I", text = "Blanks (10, 32) are where one likes (words and numbers side by side need one).")
    static void blanks() {
        fine(" \n loaf\n\n5 ; house\na flour\n 9 salt 1 \n;starves [ day > 1 ] or not ( 2 ) = min ( 1 , 2 ) ; \n", 3);
        fine("loaf 5;starves[day>1]or[2<1]and not(2)=min(1,2)or not[all]and all;", 2);
        for (int sign : new int[] {0, 9, 11, 13, 31, 33, 160, 255}) {
            faulty("loaf 5;^" + (char) sign + "famine 1;", 1);
            faulty("loaf^" + (char) sign + "5;", 1);
        }
        faulty("loaf^5;", 1);
        faulty("loaf 5;famine^1;", 1);
        faulty("loaf 5;house a^1 flour 1 salt 1;", 1);
        faulty("loaf 5;house a flour 1^salt 1;", 1);
        faulty("loaf 5;grows 1+day^1;", 1);
        faulty("loaf 5;starves 1=1^or all;", 1);
        faulty("loaf 5;starves all or^1=1;", 1);
        faulty("^loa f 5;", 1);
        faulty("loaf 1 ^2;", 1);
    }

    @Says(in = "I", text = "FAULTS, the first along the text:")
    static void theFirstFault() {
        faulty("loaf ^0;house with;", 2);
        faulty("loaf 5;grows ^feuds;famine 101;", 1);
        faulty("loaf 5;famine ^101;famine 102;!", 2);
        faulty(houses(2) + "feud ^x with x hate 0;", 3);
        faulty(houses(2) + "feud a with ^x hate 0;", 3);
        faulty("loaf 5;grows ((((((^((((feuds;", 4);
        faulty("loaf 5;grows (((((^feuds;", 1);
        faulty(houses(7) + "^house a flour 100 salt 10;", 5);
        faulty("loaf 5;grows 1;^grows feuds;", 5);
        faulty(houses(1) + "house ^a1;", 3);
        faulty("loaf ^99x;", 2);
    }

    @Says(in = "I", text = "1 the first byte with which no such text goes on (words and numbers whole, at their first byte;")
    static void noSuchText() {
        faulty("^x;", 1);
        faulty("^loafx 5;", 1);
        faulty("^lOAF 5;", 1);
        faulty("^5;", 1);
        faulty("loaf ^five;", 1);
        faulty("loaf ^-5;", 1);
        faulty("loaf 5 ^5;", 1);
        faulty("loaf 5^,", 1);
        faulty("loaf 5;^12345", 1);
        faulty("loaf 5;^hous a flour 1 salt 1;", 1);
        faulty("loaf 5;^first all;", 1);
        faulty("loaf 5;house ^1 flour 1 salt 1;", 1);
        faulty("loaf 5;house ^; flour 1 salt 1;", 1);
        faulty("loaf 5;house a ^flou 1 salt 1;", 1);
        faulty("loaf 5;house a ^salt 1 flour 1;", 1);
        faulty("loaf 5;house a flour 1 ^salted 1;", 1);
        faulty(houses(2) + "feud a ^b hate 1;", 1);
        faulty(houses(2) + "feud a with b ^hates 1;", 1);
        faulty("loaf 5;grows day ^123456;", 1);
        faulty("loaf 5;grows ^days;", 1);
        faulty("loaf 5;grows min^;", 1);
        faulty("loaf 5;grows min(1^);", 1);
        faulty("loaf 5;grows min(1,2^,3);", 1);
        faulty("loaf 5;grows (1^,2);", 1);
        faulty("loaf 5;grows ^+1;", 1);
        faulty("loaf 5;grows 1+^-1;", 1);
    }

    @Says(in = "I", text = "where a NAME is asked, an OWN WORD so, a 7th letter at itself;")
    static void seventhLetter() {
        faulty("loaf 5;house ^with", 1);
        faulty("loaf 5;house ^starves flour 1 salt 1;", 1);
        faulty("loaf 5;house abcdef^g", 1);
        faulty("loaf 5;house starve^ss flour 1 salt 1;", 1);
        faulty("loaf 5;house abcdef^ghijkl flour 1 salt 1;", 1);
        faulty("loaf 5;house abcdef flour 1 salt 1;house abcdef^g", 1);
        faulty(houses(1) + "feud abcdef^g with a hate 1;", 1);
        faulty(houses(1) + "feud a with abcdef^g hate 1;", 1);
        faulty("loaf 5;^abcdefg;", 1);
    }

    @Says(in = "I", text = "where a number is asked, a 5th digit at itself;")
    static void fifthDigit() {
        faulty("loaf 1234^5;", 1);
        faulty("loaf 0000^5;", 1);
        faulty("loaf 9999^99;", 1);
        faulty("loaf 5;house a flour 0000^1 salt 1;", 1);
        faulty("loaf 5;house a flour 1 salt 0000^1;", 1);
        faulty(houses(2) + "feud a with b hate 0000^1;", 1);
        faulty("loaf 5;famine 0000^1;", 1);
        faulty("loaf 5;grows 0000^1;", 1);
        faulty("loaf 5;starves 1<0000^1;", 1);
        faulty("loaf 5;grows 1 ^00001;", 1);
        faulty("loaf 5;house ^00001;", 1);
    }

    @Says(in = "I", text = "at the text's length, if it ends too soon);")
    static void endsTooSoon() {
        for (String s : new String[] {"", "loaf", "loaf ", "loaf 5", "loaf 5 \n", "loaf 5;house", "loaf 5;house a",
            "loaf 5;house a flour", "loaf 5;house a flour 1", "loaf 5;house a flour 1 salt", "loaf 5;house a flour 1 salt 1",
            houses(2) + "feud", houses(2) + "feud a", houses(2) + "feud a with", houses(2) + "feud a with b",
            houses(2) + "feud a with b hate", houses(2) + "feud a with b hate 1", "loaf 5;bakes", "loaf 5;tastes ",
            "loaf 5;cools", "loaf 5;grows 1", "loaf 5;grows 1+", "loaf 5;grows 1*", "loaf 5;grows (", "loaf 5;grows (1",
            "loaf 5;grows (1)", "loaf 5;grows min", "loaf 5;grows min(", "loaf 5;grows max(1", "loaf 5;grows max(1,",
            "loaf 5;grows max(1,2", "loaf 5;grows max(1,2)", "loaf 5;starves", "loaf 5;starves not", "loaf 5;starves [",
            "loaf 5;starves [all", "loaf 5;starves [all]", "loaf 5;starves 1", "loaf 5;starves 1<", "loaf 5;starves 1<2",
            "loaf 5;starves all or", "loaf 5;starves all and ", "loaf 5;famine", "loaf 5;famine 1", "\n \n"}) {
            faulty(s + "^", 1);
        }
    }

    @Says(in = "I", text = "2 a number that can't be, at it;")
    static void numbersThatCannotBe() {
        faulty("loaf ^0", 2);
        faulty("loaf ^21", 2);
        faulty("loaf ^0021;", 2);
        faulty("loaf 5;house a flour ^100", 2);
        faulty("loaf 5;house a flour ^9999 salt", 2);
        faulty("loaf 5;house a flour 1 salt \n^10;", 2);
        faulty(houses(2) + "feud a with b hate ^0;", 2);
        faulty(houses(2) + "feud a with b hate ^100;", 2);
        faulty("loaf 5;famine ^101;", 2);
        faulty("loaf 5;famine ^9999;", 2);
    }

    @Says(in = "I", text = "3 a NAME to be given that is there already, one that is none of a HOUSE, a second one of a feud "
            + "that is the first, or has a feud with it already, at it;")
    static void namesThatCannotBe() {
        faulty("loaf 5;house ab flour 1 salt 1;house ^ab", 3);
        faulty(houses(6) + "house ^f flour", 3);
        faulty(houses(1) + "feud ^b", 3);
        faulty(houses(1) + "feud a with ^b", 3);
        faulty(houses(1) + "feud a with ^a", 3);
        faulty(houses(3) + "feud a with b hate 1;feud b with ^a", 3);
        faulty(houses(3) + "feud a with b hate 1;feud a with ^b", 3);
        fine(houses(3) + "feud a with b hate 1;feud b with c hate 1;feud c with a hate 1;", 7);
        fine("loaf 5;house ab flour 1 salt 1;house a flour 1 salt 1;house abc flour 1 salt 1;", 4);
    }

    @Says(in = "I", text = "4 the 7th of ( [ not that is open at once (not until its FACT ends), at it;")
    static void seventhOpen() {
        fine("loaf 5;grows " + "(".repeat(6) + "1" + ")".repeat(6) + ";", 2);
        faulty("loaf 5;grows " + "(".repeat(6) + "^(1" + ")".repeat(7) + ";", 4);
        fine("loaf 5;starves " + "[".repeat(6) + "all" + "]".repeat(6) + ";", 2);
        faulty("loaf 5;starves " + "[".repeat(6) + "^[all" + "]".repeat(7) + ";", 4);
        fine("loaf 5;starves " + "not ".repeat(6) + "all;", 2);
        faulty("loaf 5;starves " + "not ".repeat(6) + "^not all;", 4);
        fine("loaf 5;starves not [not [((1))=1]];", 2);
        faulty("loaf 5;starves not [not [((^(1)))=1]];", 4);
        faulty("loaf 5;starves not [not [((1))=((^(1)))]];", 4);
        faulty("loaf 5;starves not not not [[[^not all]]];", 4);
        // The ( of min and max is one of them, to its end.
        fine("loaf 5;grows (((((min(1,2))))));", 2);
        faulty("loaf 5;grows ((((((min^(1,2)))))));", 4);
        faulty("loaf 5;grows (((((max(1,^(2)))))));", 4);
        faulty("loaf 5;grows (((((max(^(1),2))))));", 4);
        // Closed ones are not open any more; not is closed by its fact's end.
        fine("loaf 5;grows ((((((1))))))+((((((1))))))*min(((((1)))),((((2)))));", 2);
        fine("loaf 5;starves not not not not not not all and not not not not not not all or [[[[[[all]]]]]];", 2);
        fine("loaf 5;starves not not not not not not all and ((((((1))))))=1;", 2);
        fine("loaf 5;starves " + "not all and ".repeat(20) + "all;", 2);
        fine("loaf 5;starves " + "[all] and ".repeat(20) + "[[[[[[all]]]]]];", 2);
        fine("loaf 5;grows " + "(1)+".repeat(20) + "((((((1))))));", 2);
        fine("loaf 5;grows " + "min(1,2)+max(1,2)+".repeat(20) + "((((((1))))));", 2);
        faulty("loaf 5;starves [not not not not not all and not not not not not ^not all;", 4);
    }

    @Says(in = "I", text = "5 one too many of a kind (a second bakes, tastes, starves, cools, grows, too), "
            + "a 61st STATEMENT (whatever stands there), at its first byte.")
    static void oneTooMany() {
        faulty(houses(7) + " ^house", 5);
        for (String rule : RULES) {
            faulty("loaf 5;" + rule + "\n^" + rule.substring(0, rule.indexOf(' ')), 5);
        }
        String sixty = "loaf 5;" + "famine 1;".repeat(59);
        for (String more : new String[] {"famine 1;", "loaf 5;", "x", "!", ";", "12345", "house", "grows feuds;"}) {
            faulty(sixty + " \n^" + more, 5);
        }
        fine("loaf 5;" + "famine 1;".repeat(58) + "grows 1;", 60);
        faulty(sixty.substring(0, sixty.length() - 1) + "^", 1);
    }

    @Says(in = "IV", text = "A QUESTION is a text, of all HOUSES that are there: first TEST, last TEST "
            + "(the first, the last HOUSE for which it holds), often TEST (for how many), total SUM (of all together)")
    static void kindsOfQuestions() {
        EnemyBread e = of(houses(4));
        asks(e, "first salt>1", 1);
        asks(e, "last salt<4", 2);
        asks(e, "often salt>1", 3);
        asks(e, "total salt", 10);
        asks(e, "total 1000*1000", 4000000);
        asks(e, "total 0-1000*1000", -4000000);
        EnemyBread gone = at(houses(4), 0, new int[] {0, 1, 0, 1, 1, 0, 1, 1, 0, 0, 1, 0}, 0, 0, 0, 0, 0, 0);
        asks(gone, "first all", 1);
        asks(gone, "last all", 2);
        asks(gone, "often all", 2);
        asks(gone, "total salt", 5);
        asks(gone, "most salt", 3);
        asks(gone, "least salt", 2);
        asksFaulty("first ^", 1);
        asksFaulty("total 1^=1", 1);
        asksFaulty("often 1^", 1);
    }

    @Says(in = "IV", text = "TEST, SUM as in I, but PART: N; number; flour; salt; hunger; feuds; day; hate PART; tastes PART; "
            + "( SUM ) ; min ( SUM , SUM ) ; max ( SUM , SUM ) .")
    static void partsOfQuestions() {
        EnemyBread e = at(houses(3) + "feud a with b hate 4;", 7, new int[] {1, 11, 1, 1, 12, 2, 1, 13, 3}, 4, 0, 0);
        asks(e, "total 9999", 29997);
        asks(e, "total number", 3);
        asks(e, "total flour", 36);
        asks(e, "total salt", 6);
        asks(e, "total hunger", 6);
        asks(e, "total feuds", 2);
        asks(e, "total day", 21);
        asks(e, "total hate 0", 4);
        asks(e, "total tastes 0", -1);
        asks(e, "total hate 0+1", 7);
        asks(e, "total hate(0+1)", 4);
        asks(e, "total hate min(0,1)*2", 8);
        asks(e, "total hate number", 0);
        asks(e, "total (number)", 3);
        asks(e, "total max(number,1)", 4);
        asks(e, "total min(number,1)", 2);
        for (String word : OWN_WORDS) {
            if (!" flour salt day hunger number feuds hate tastes min max ".contains(" " + word + " ")) {
                asksFaulty("total ^" + word, 1);
            }
        }
        asksFaulty("total hate^", 1);
        asksFaulty("total tastes ^+1", 1);
        asksFaulty("total hate ^-1", 1);
    }

    @Says(in = "IV", text = "Its FAULTS: 1 as in I (an unknown word at its first byte; what stands behind it, too)")
    static void faultsOfQuestions() {
        asksFaulty("^", 1);
        asksFaulty(" \n^", 1);
        asksFaulty("^what all", 1);
        asksFaulty("^firsts all", 1);
        asksFaulty("^5", 1);
        asksFaulty("^flour", 1);
        asksFaulty("^all", 1);
        asksFaulty("total ^flower", 1);
        asksFaulty("total ^a", 1);
        asksFaulty("often^", 1);
        asksFaulty("often ^", 1);
        asksFaulty("often all^;", 1);
        asksFaulty("often all ^all", 1);
        asksFaulty("often all ^first all", 1);
        asksFaulty("total 1 ^2", 1);
        asksFaulty("total 1^)", 1);
        asksFaulty("total 1234^5", 1);
        asksFaulty("total 1^day", 1);
        asksFaulty("total hate^1", 1);
        asksFaulty("total^1", 1);
        asksFaulty("often not^", 1);
        asksFaulty("often [all^", 1);
        asksFaulty("total (1^", 1);
        asks(of(houses(3)), " \ntotal\n1 \n", 3);
    }

    @Says(in = "IV", text = "4 the 7th of ( [ not hate tastes that is open at once (not until its FACT, hate, tastes until "
            + "its PART ends), at it.")
    static void seventhOpenOfQuestions() {
        EnemyBread e = of(houses(3));
        asks(e, "total " + "(".repeat(6) + "1" + ")".repeat(6), 3);
        asksFaulty("total " + "(".repeat(6) + "^(1" + ")".repeat(7), 4);
        asks(e, "often " + "[".repeat(6) + "all" + "]".repeat(6), 3);
        asksFaulty("often " + "[".repeat(6) + "^[all" + "]".repeat(7), 4);
        asks(e, "often " + "not ".repeat(6) + "all", 3);
        asksFaulty("often " + "not ".repeat(6) + "^not all", 4);
        asks(e, "total " + "hate ".repeat(6) + "1", 0);
        asksFaulty("total " + "hate ".repeat(6) + "^hate 1", 4);
        asks(e, "total " + "tastes ".repeat(6) + "1", -3);
        asksFaulty("total " + "tastes ".repeat(6) + "^tastes 1", 4);
        asks(e, "often not [hate tastes (min(1,2))>9]", 3);
        asksFaulty("often not [hate tastes (min(^hate 1,2))>9]", 4);
        asksFaulty("often not [hate tastes ((min^(1,2)))>9]", 4);
        asks(e, "total hate hate hate hate hate hate 1+hate hate hate hate hate hate 1*tastes tastes 1", 0);
        asks(e, "often not not not not not hate 1=1 and not not not not not tastes 1=2", 3);
        asksFaulty("often not not not not not not ^hate 1=1", 4);
        asks(e, "total " + "hate 1+tastes 1+(1)+min(1,2)+".repeat(20) + "hate hate hate hate hate hate 1", 60);
        asks(e, "total hate((((( 1 )))))", 0);
        asksFaulty("total hate(((((^(1))))))", 4);
    }

    public static void main(String[] args) throws Exception {
        run(TextBoundaryTest.class, args, "I", "IV");
    }
}
