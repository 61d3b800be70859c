import java.util.Arrays;

/** A duchy in which every loaf must be baked by an enemy; README.md says how it is used. */
public final class EnemyBread {

    public static final int NONE = -1;
    public static final long NOTHING = -1000000000000000L;

    private static final int MOST_BYTES = 1600;
    private static final int MOST_HOUSES = 7;
    private static final int MOST_LETTERS = 6;
    /** Hate is found at 8 times one house's number and the other's, as pairs are told to callers. */
    private static final int PAIR_CELLS = 64;
    private static final int SETS = 128;
    private static final int GREATEST = 99;
    private static final int HUNGRIEST = 9;
    private static final int LAST_DAY = 999;
    private static final int MOST_AHEAD = 60;
    private static final int MOST_AHEAD_OF_SETS = 20;
    private static final int MOST_DAYS = 100;
    private static final int MOST_KEPT = 40;
    private static final int NO_LOAF = 255;

    private static final int REFUSED_TAPE = 0;
    private static final int REFUSED_TEXT = 1;
    private static final int REFUSED_GIFT = 2;
    private static final int REFUSED_DAYS = 3;
    private static final int REFUSED_UNDO = 4;
    private static final int REFUSED_SEED = 5;

    private final int[] tape = new int[MOST_BYTES];
    private int tapeLength;
    private final int[] refused = new int[6];
    private int faultKind;
    private int faultPlace = NONE;
    private int seedNow = 1;
    private final int[] picture = new int[State.imageLength(MOST_HOUSES)];
    private int pictureLength;

    private final DuchyReader duchyReader = new DuchyReader();
    private final Asker asker = new Asker();
    private final Calendar calendar = new Calendar();
    /** Those by which the calendar goes; empty ones without a duchy. */
    private Rules rules = calendar.rules;
    private final State now = new State();
    private final State ahead = new State();
    private final History history = new History();
    private final Tables tables = new Tables();
    private final Endings endings = new Endings();
    private final Sight sight = new Sight();
    /** Grows with each change, so that what was sought once need not be sought for each part of its answer. */
    private int version;

    public EnemyBread() {
    }

    public int feed(int a, int b, int c, int d, int e) {
        if (tapeLength + 20 > MOST_BYTES) {
            return refuse(REFUSED_TAPE);
        }
        putOnTape(a);
        putOnTape(b);
        putOnTape(c);
        putOnTape(d);
        putOnTape(e);
        return tapeLength;
    }

    public boolean end(int n) {
        if (n < 0 || n > tapeLength) {
            refuse(REFUSED_TAPE);
            return false;
        }
        tapeLength = n;
        return true;
    }

    public int duchy() {
        duchyReader.read(tape, takeTape());
        noteFault(duchyReader.in);
        if (faultKind != 0) {
            return refuse(REFUSED_TEXT);
        }
        rules = duchyReader.exchange(rules);
        calendar.rules = rules;
        now.begin(rules);
        history.count = 0;
        sight.rows = 0;
        version++;
        return rules.statements;
    }

    public int fault(int what) {
        if (what == 0) {
            return faultKind;
        }
        return what == 1 ? faultPlace : NONE;
    }

    public int has(int what) {
        switch (what) {
            case 0: return rules.loaf;
            case 1: return rules.houses;
            case 2: return now.day;
            case 3: return Integer.bitCount(now.there);
            case 4: return now.countFeuds();
            case 5: return now.flourTogether();
            case 6: return now.toldLoaves();
            case 7: return sight.rows;
            case 8: return history.count;
            default: return NONE;
        }
    }

    public int letter(int house, int k) {
        if (!isHouse(house) || k < 0 || k >= MOST_LETTERS) {
            return NONE;
        }
        return rules.names[house * MOST_LETTERS + k];
    }

    public int house(int house, int what) {
        if (!isHouse(house)) {
            return NONE;
        }
        switch (what) {
            case 0: return now.flour[house];
            case 1: return rules.salt[house];
            case 2: return now.hunger[house];
            case 3: return now.isThere(house) ? 1 : 0;
            case 4: return now.countEnemies(house);
            default: return NONE;
        }
    }

    public int hate(int one, int other) {
        return arePair(one, other) ? now.hate[8 * one + other] : NONE;
    }

    public int baker(int house) {
        if (!isHouse(house)) {
            return NONE;
        }
        ahead.copyFrom(now);
        calendar.serve(ahead, 0, false);
        return calendar.bakerOf[house];
    }

    public int taste(int baker, int house) {
        if (!arePair(baker, house) || now.hate[8 * baker + house] == 0) {
            return NONE;
        }
        return calendar.tasteOfLoaf(now, baker, house);
    }

    public int kept(int k, int what) {
        return now.toldOfLoaf(k, what);
    }

    public int later(int house, int n, int what) {
        if (!isHouse(house) || what < 0 || what > 2 || !goAhead(n)) {
            return NONE;
        }
        if (what == 0) {
            return ahead.flour[house];
        }
        if (what == 1) {
            return ahead.hunger[house];
        }
        return ahead.isThere(house) ? 1 : 0;
    }

    public int cooled(int one, int other, int n) {
        if (!arePair(one, other) || !goAhead(n)) {
            return NONE;
        }
        return ahead.hate[8 * one + other];
    }

    public int starves(int house) {
        if (!isHouse(house) || !now.isThere(house)) {
            return NONE;
        }
        ahead.copyFrom(now);
        int most = Math.min(MOST_AHEAD, LAST_DAY - now.day);
        for (int d = 0; d < most; d++) {
            calendar.run(ahead, 0, false);
            if (!ahead.isThere(house)) {
                return d;
            }
        }
        return NONE;
    }

    public int table(int what) {
        if (!hasDuchy() || what < 0 || what >= 2 + rules.houses) {
            return NONE;
        }
        tables.seat(rules, now, version);
        if (what == 0) {
            return tables.eaters;
        }
        return what == 1 ? tables.hateTogether : tables.bakerFor[what - 2];
    }

    public int wanting(int k) {
        if (!hasDuchy()) {
            return NONE;
        }
        tables.seekWanted(rules, now, version);
        if (k == NONE) {
            return tables.wantedCount;
        }
        return k >= 0 && k < tables.wantedCount ? tables.wanted[k] : NONE;
    }

    public int spared(int n, int k) {
        if (!hasDuchy() || !canLookAtSets(n) || now.countFeuds() > Endings.MOST_FEUDS) {
            return NONE;
        }
        endings.spare(calendar, now, ahead, n, version);
        if (k == NONE) {
            return Integer.bitCount(endings.sparedBits);
        }
        return endings.sparedPair(k);
    }

    public int rest(int n) {
        if (!hasDuchy() || !canLookAtSets(n)) {
            return NONE;
        }
        return endings.restingSet(calendar, now, ahead, n);
    }

    public int see() {
        if (!sight.take(tape, takeTape(), rules.houses)) {
            return refuse(REFUSED_TEXT);
        }
        version++;
        return sight.rows;
    }

    public int flour(int house, int what) {
        if (!isHouse(house) || !now.isThere(house)) {
            return NONE;
        }
        sight.look(calendar, now, ahead, house, version);
        switch (what) {
            case 0: return sight.left;
            case 1: return sight.least;
            case 2: return sight.greatest;
            default: return NONE;
        }
    }

    public int tells(int house, int what) {
        if (!isHouse(house) || !now.isThere(house)) {
            return NONE;
        }
        sight.look(calendar, now, ahead, house, version);
        sight.choose(calendar, now, ahead, house, version);
        switch (what) {
            case 0: return sight.tellingDay;
            case 1: return sight.tellingHouse;
            case 2: return sight.tellingLeft;
            default: return NONE;
        }
    }

    public boolean feud(int one, int other, int hate) {
        if (!arePair(one, other) || !now.isThere(one) || !now.isThere(other)
                || hate < 0 || hate > GREATEST || now.hate[8 * one + other] == hate) {
            refuse(REFUSED_GIFT);
            return false;
        }
        beginAct();
        now.setHate(one, other, hate);
        return true;
    }

    public boolean bring(int house, int flour) {
        if (!isHouse(house) || !now.isThere(house)
                || flour < 0 || flour > GREATEST || now.flour[house] == flour) {
            refuse(REFUSED_GIFT);
            return false;
        }
        beginAct();
        now.flour[house] = flour;
        return true;
    }

    public int days(int n) {
        if (!canPass(n)) {
            return refuse(REFUSED_DAYS);
        }
        beginAct();
        int loaves = 0;
        for (int d = 0; d < n; d++) {
            calendar.run(now, 0, true);
            loaves += calendar.loaves;
        }
        return loaves;
    }

    public int chance(int n) {
        if (!canPass(n)) {
            return refuse(REFUSED_DAYS);
        }
        beginAct();
        int famines = 0;
        for (int d = 0; d < n; d++) {
            if (draw(100) < rules.famine && rules.houses > 0) {
                int struck = draw(rules.houses);
                now.flour[struck] = now.flour[struck] / 2;
                famines++;
            }
            calendar.run(now, 0, true);
        }
        return famines;
    }

    public boolean undo() {
        if (!history.goBack(now)) {
            refuse(REFUSED_UNDO);
            return false;
        }
        version++;
        return true;
    }

    public boolean seed(int seed) {
        if (seed < 0) {
            refuse(REFUSED_SEED);
            return false;
        }
        seedNow = seed;
        return true;
    }

    public long ask() {
        int length = takeTape();
        if (!hasDuchy()) {
            return NOTHING;
        }
        asker.read(tape, length);
        noteFault(asker.in);
        return faultKind == 0 ? asker.answer(calendar, now) : NOTHING;
    }

    public int image() {
        pictureLength = now.writeImage(picture, rules.houses);
        return pictureLength;
    }

    public int octet(int k) {
        return k >= 0 && k < pictureLength ? picture[k] : NONE;
    }

    public boolean on() {
        int length = takeTape();
        if (!hasDuchy() || !State.isImage(tape, length, rules.houses)) {
            refuse(REFUSED_SEED);
            return false;
        }
        now.readImage(tape, rules.houses);
        history.count = 0;
        version++;
        return true;
    }

    public int status(int what) {
        return what >= 0 && what < refused.length ? refused[what] : NONE;
    }

    private int refuse(int what) {
        if (what >= 0 && what < refused.length) {
            refused[what]++;
        }
        return NONE;
    }

    private void putOnTape(int four) {
        for (int shift = 24; shift >= 0; shift -= 8) {
            if (tapeLength >= 0 && tapeLength < tape.length) {
                tape[tapeLength] = (four >>> shift) & 255;
                tapeLength++;
            }
        }
    }

    /** Its bytes stay readable until the next feed, so that nobody needs a copy. */
    private int takeTape() {
        int length = tapeLength;
        tapeLength = 0;
        return length;
    }

    private void noteFault(Reader reader) {
        faultKind = reader.fault;
        faultPlace = reader.place;
    }

    private boolean hasDuchy() {
        return rules.statements > 0;
    }

    private boolean isHouse(int house) {
        return house >= 0 && house < rules.houses;
    }

    private boolean arePair(int one, int other) {
        return isHouse(one) && isHouse(other) && one != other;
    }

    private boolean canPass(int n) {
        return hasDuchy() && n >= 1 && n <= MOST_DAYS && now.day + n <= LAST_DAY;
    }

    private boolean canLookAtSets(int n) {
        return n >= 1 && n <= MOST_AHEAD_OF_SETS && now.day + n <= LAST_DAY;
    }

    private boolean goAhead(int n) {
        if (n < 0 || n > MOST_AHEAD || now.day + n > LAST_DAY) {
            return false;
        }
        ahead.copyFrom(now);
        for (int d = 0; d < n; d++) {
            calendar.run(ahead, 0, false);
        }
        return true;
    }

    private void beginAct() {
        history.remember(now);
        version++;
    }

    private int draw(int m) {
        seedNow = (int) ((1103515245L * seedNow + 12345L) & 0x7fffffffL);
        return m > 0 ? (seedNow / 64) % m : 0;
    }

    /** How all stands in one moment. */
    private static final class State {
        int day;
        int there;
        int loavesEver;
        final int[] flour = new int[MOST_HOUSES];
        final int[] hunger = new int[MOST_HOUSES];
        final int[] hate = new int[PAIR_CELLS];
        final int[] kept = new int[MOST_KEPT];

        void begin(Rules rules) {
            day = 0;
            there = (1 << rules.houses) - 1;
            loavesEver = 0;
            System.arraycopy(rules.flour, 0, flour, 0, MOST_HOUSES);
            System.arraycopy(rules.hate, 0, hate, 0, PAIR_CELLS);
            Arrays.fill(hunger, 0);
        }

        void copyFrom(State other) {
            day = other.day;
            there = other.there;
            loavesEver = other.loavesEver;
            System.arraycopy(other.flour, 0, flour, 0, MOST_HOUSES);
            System.arraycopy(other.hunger, 0, hunger, 0, MOST_HOUSES);
            System.arraycopy(other.hate, 0, hate, 0, PAIR_CELLS);
            System.arraycopy(other.kept, 0, kept, 0, MOST_KEPT);
        }

        boolean isThere(int house) {
            return house >= 0 && house < MOST_HOUSES && (there >> house & 1) != 0;
        }

        void setHate(int one, int other, int value) {
            if (one >= 0 && one < MOST_HOUSES && other >= 0 && other < MOST_HOUSES) {
                hate[8 * one + other] = value;
                hate[8 * other + one] = value;
            }
        }

        void bury(int house) {
            there &= ~(1 << house);
            for (int other = 0; other < MOST_HOUSES; other++) {
                setHate(house, other, 0);
            }
        }

        int countEnemies(int house) {
            int enemies = 0;
            for (int other = 0; other < MOST_HOUSES && house >= 0 && house < MOST_HOUSES; other++) {
                if (hate[8 * house + other] > 0) {
                    enemies++;
                }
            }
            return enemies;
        }

        int countFeuds() {
            int ends = 0;
            for (int house = 0; house < MOST_HOUSES; house++) {
                ends += countEnemies(house);
            }
            return ends / 2;
        }

        int flourTogether() {
            int together = 0;
            for (int house = 0; house < MOST_HOUSES; house++) {
                if (isThere(house)) {
                    together += flour[house];
                }
            }
            return together;
        }

        void keep(int baker, int eater, int taste) {
            int place = loavesEver % MOST_KEPT;
            if (place >= 0) {
                kept[place] = ((day * 8 + baker) * 8 + eater) * 128 + taste;
                loavesEver++;
            }
        }

        int toldLoaves() {
            return Math.min(loavesEver, MOST_KEPT);
        }

        int toldOfLoaf(int k, int what) {
            if (k < 0 || k >= toldLoaves()) {
                return NONE;
            }
            int place = (loavesEver - toldLoaves() + k) % MOST_KEPT;
            int loaf = place >= 0 ? kept[place] : 0;
            switch (what) {
                case 0: return loaf / (8 * 8 * 128);
                case 1: return loaf / (8 * 128) % 8;
                case 2: return loaf / 128 % 8;
                case 3: return loaf % 128;
                default: return NONE;
            }
        }

        static int imageLength(int houses) {
            return 2 + 3 * houses + houses * (houses - 1) / 2 + 1;
        }

        static int checkByte(int[] bytes, int count) {
            int c = 233;
            for (int i = 0; i < count && i < bytes.length; i++) {
                c = (3 * c + bytes[i]) % 251;
            }
            return c;
        }

        int writeImage(int[] bytes, int houses) {
            int length = imageLength(houses);
            if (length > bytes.length) {
                return 0;
            }
            bytes[0] = day / 256;
            bytes[1] = day % 256;
            int at = 2;
            for (int house = 0; house < houses; house++) {
                bytes[at] = isThere(house) ? 1 : 0;
                bytes[at + 1] = flour[house];
                bytes[at + 2] = hunger[house];
                at += 3;
            }
            for (int one = 0; one < houses; one++) {
                for (int other = one + 1; other < houses; other++) {
                    bytes[at] = hate[8 * one + other];
                    at++;
                }
            }
            bytes[at] = checkByte(bytes, at);
            return length;
        }

        static boolean isImage(int[] bytes, int length, int houses) {
            if (length != imageLength(houses) || length > bytes.length
                    || bytes[0] * 256 + bytes[1] > LAST_DAY
                    || bytes[length - 1] != checkByte(bytes, length - 1)) {
                return false;
            }
            for (int house = 0; house < houses; house++) {
                int at = 2 + 3 * house;
                if (bytes[at] > 1 || bytes[at + 1] > GREATEST || bytes[at + 2] > HUNGRIEST) {
                    return false;
                }
            }
            int at = 2 + 3 * houses;
            for (int one = 0; one < houses; one++) {
                for (int other = one + 1; other < houses; other++) {
                    boolean both = bytes[2 + 3 * one] == 1 && bytes[2 + 3 * other] == 1;
                    if (bytes[at] > (both ? GREATEST : 0)) {
                        return false;
                    }
                    at++;
                }
            }
            return true;
        }

        void readImage(int[] bytes, int houses) {
            if (imageLength(houses) > bytes.length || houses > MOST_HOUSES) {
                return;
            }
            day = bytes[0] * 256 + bytes[1];
            there = 0;
            loavesEver = 0;
            int at = 2;
            for (int house = 0; house < houses; house++) {
                there |= bytes[at] << house;
                flour[house] = bytes[at + 1];
                hunger[house] = bytes[at + 2];
                at += 3;
            }
            for (int one = 0; one < houses; one++) {
                for (int other = one + 1; other < houses; other++) {
                    setHate(one, other, bytes[at]);
                    at++;
                }
            }
        }
    }

    /** What a duchy's text tells. */
    private static final class Rules {
        static final int KINDS = 5;
        static final int BAKES = 0;
        static final int TASTES = 1;
        static final int STARVES = 2;
        static final int COOLS = 3;
        static final int GROWS = 4;
        static final int CODE_CELLS = MOST_BYTES + 8;

        int statements;
        int loaf;
        int houses;
        int famine;
        final int[] names = new int[MOST_HOUSES * MOST_LETTERS];
        final int[] flour = new int[MOST_HOUSES];
        final int[] salt = new int[MOST_HOUSES];
        final int[] hate = new int[PAIR_CELLS];
        final int[] code = new int[CODE_CELLS];
        final int[] from = new int[KINDS];
        final int[] to = new int[KINDS];

        /** Answers where code that is told may begin: what goes without being told stands ahead of it. */
        int clear() {
            statements = 0;
            loaf = 0;
            houses = 0;
            famine = 0;
            Arrays.fill(names, 0);
            Arrays.fill(flour, 0);
            Arrays.fill(salt, 0);
            Arrays.fill(hate, 0);
            code[0] = Machine.FACT + Reader.HATE;
            code[1] = Machine.FACT + Reader.SALT;
            code[2] = Machine.FACT + Reader.HUNGER;
            code[3] = 5;
            code[4] = Machine.ABOVE;
            code[5] = 1;
            place(BAKES, 0, 1);
            place(TASTES, 1, 2);
            place(STARVES, 2, 5);
            place(COOLS, 0, 1);
            place(GROWS, 5, 6);
            return 6;
        }

        void place(int kind, int first, int behind) {
            if (kind >= 0 && kind < KINDS) {
                from[kind] = first;
                to[kind] = behind;
            }
        }

        /** The house that bears the word from one place of a text to another as its name. */
        int houseNamed(int[] text, int first, int behind) {
            for (int house = 0; house < houses && house < MOST_HOUSES; house++) {
                boolean same = true;
                for (int k = 0; k < MOST_LETTERS && same; k++) {
                    int at = first + k;
                    int letter = at >= 0 && at < behind && at < text.length ? text[at] - 'a' + 1 : 0;
                    same = letter == names[house * MOST_LETTERS + k];
                }
                if (same) {
                    return house;
                }
            }
            return NONE;
        }

        void nameNext(int[] text, int first, int behind) {
            for (int k = 0; k < MOST_LETTERS && houses >= 0 && houses < MOST_HOUSES; k++) {
                int at = first + k;
                boolean within = at >= 0 && at < behind && at < text.length;
                names[houses * MOST_LETTERS + k] = within ? text[at] - 'a' + 1 : 0;
            }
        }

        void addNext(int itsFlour, int itsSalt) {
            if (houses >= 0 && houses < MOST_HOUSES) {
                flour[houses] = itsFlour;
                salt[houses] = itsSalt;
                houses++;
            }
        }
    }

    /** Reads words, numbers and signs along a text, and tests and sums made of them, as code for the machine. */
    private static final class Reader {
        static final int LOAF = 0;
        static final int HOUSE = 1;
        static final int FLOUR = 2;
        static final int SALT = 3;
        static final int FEUD = 4;
        static final int WITH = 5;
        static final int HATE = 6;
        static final int BAKES = 7;
        static final int TASTES = 8;
        static final int STARVES = 9;
        static final int COOLS = 10;
        static final int GROWS = 11;
        static final int FAMINE = 12;
        static final int DAY = 13;
        static final int HUNGER = 14;
        static final int LOAVES = 15;
        static final int NUMBER = 16;
        static final int FEUDS = 17;
        static final int OR = 18;
        static final int AND = 19;
        static final int NOT = 20;
        static final int ALL = 21;
        static final int MIN = 22;
        static final int MAX = 23;
        static final int OWN_WORDS = 24;
        static final int FIRST = 24;
        static final int LAST = 25;
        static final int OFTEN = 26;
        static final int TOTAL = 27;
        static final int MOST = 28;
        static final int LEAST = 29;
        /** In the order of their numbers above; those from OWN_WORDS on may be names. */
        static final String WORDS = "loaf house flour salt feud with hate bakes tastes starves cools grows famine day hunger loaves number feuds or and not all min max first last often total most least ";
        static final int NO_WORD = -1;

        static final int AT_END = 0;
        static final int A_WORD = 1;
        static final int A_NUMBER = 2;
        static final int A_SIGN = 3;

        static final int FAULT_TEXT = 1;
        static final int FAULT_NUMBER = 2;
        static final int FAULT_NAME = 3;
        static final int FAULT_DEPTH = 4;
        static final int FAULT_MANY = 5;
        static final int MOST_OPEN = 6;
        static final int MOST_DIGITS = 4;
        static final int GREATEST_NUMBER = 9999;

        int[] text = new int[0];
        int length;
        int at;
        int kind;
        int start;
        int word;
        int sign;
        int value;
        int fault;
        int place;
        int open;
        int facts;
        boolean asking;
        int[] code = new int[0];
        int size;

        void begin(int[] newText, int newLength, int[] newCode, int newSize) {
            text = newText;
            length = Math.min(newLength, newText.length);
            code = newCode;
            size = newSize;
            at = 0;
            fault = 0;
            place = NONE;
            open = 0;
            next();
        }

        void refuse(int what, int where) {
            if (fault == 0) {
                fault = what;
                place = where;
            }
        }

        void next() {
            int before = at;
            skipBlanks();
            start = at;
            word = NO_WORD;
            if (at < 0 || at >= length) {
                kind = AT_END;
                return;
            }
            // A word and a number without a blank between them: as a sign that is never asked for.
            boolean glued = at == before && at > 0 && kindOf(text[at - 1]) != A_SIGN;
            sign = text[at];
            kind = glued ? A_SIGN : kindOf(sign);
            at++;
            for (int i = at; kind != A_SIGN && i < length && kindOf(text[i]) == kind; i++) {
                at = i + 1;
            }
            if (kind == A_WORD) {
                word = wordNumber();
            } else if (kind == A_NUMBER) {
                value = firstDigits();
            }
        }

        boolean isSign(char wanted) {
            return kind == A_SIGN && sign == wanted;
        }

        boolean takeWord(int wanted) {
            if (fault != 0 || word != wanted) {
                return false;
            }
            next();
            return true;
        }

        void expectWord(int wanted) {
            if (!takeWord(wanted)) {
                refuse(FAULT_TEXT, start);
            }
        }

        void expectSign(char wanted) {
            if (fault == 0 && isSign(wanted)) {
                next();
            } else {
                refuse(FAULT_TEXT, start);
            }
        }

        int takeNumber(int least, int most) {
            if (kind != A_NUMBER) {
                refuse(FAULT_TEXT, start);
            } else if (at - start > MOST_DIGITS) {
                refuse(FAULT_TEXT, start + MOST_DIGITS);
            } else if (value < least || value > most) {
                refuse(FAULT_NUMBER, start);
            }
            if (fault != 0) {
                return 0;
            }
            int number = value;
            next();
            return number;
        }

        boolean isAtName() {
            if (kind != A_WORD || word >= 0 && word < OWN_WORDS) {
                refuse(FAULT_TEXT, start);
            } else if (at - start > MOST_LETTERS) {
                refuse(FAULT_TEXT, start + MOST_LETTERS);
            }
            return fault == 0;
        }

        private void test() {
            both();
            for (int i = 0; i < MOST_BYTES && takeWord(OR); i++) {
                both();
                emit(Machine.EITHER);
            }
        }

        private void sum() {
            product();
            for (int i = 0; i < MOST_BYTES && fault == 0 && (isSign('+') || isSign('-')); i++) {
                int operator = isSign('+') ? Machine.PLUS : Machine.MINUS;
                next();
                product();
                emit(operator);
            }
        }

        private void both() {
            fact();
            for (int i = 0; i < MOST_BYTES && takeWord(AND); i++) {
                fact();
                emit(Machine.BOTH);
            }
        }

        private void fact() {
            if (fault != 0) {
                return;
            }
            if (word == NOT) {
                openNext();
                fact();
                emit(Machine.OPPOSITE);
                open--;
            } else if (isSign('[')) {
                openNext();
                if (fault == 0) {
                    test();
                }
                expectSign(']');
                open--;
            } else if (takeWord(ALL)) {
                emit(1);
            } else {
                sum();
                int operator = comparing();
                sumIfFine();
                emit(operator);
            }
        }

        private int comparing() {
            int operator = isSign('<') ? Machine.BELOW : isSign('>') ? Machine.ABOVE : Machine.SAME;
            if (operator == Machine.SAME) {
                expectSign('=');
            } else if (fault == 0) {
                next();
            }
            return operator;
        }

        private void product() {
            part();
            for (int i = 0; i < MOST_BYTES && fault == 0 && (isSign('*') || isSign('/')); i++) {
                int operator = isSign('*') ? Machine.TIMES : Machine.OVER;
                next();
                part();
                emit(operator);
            }
        }

        private void part() {
            if (fault != 0) {
                return;
            }
            if (kind == A_NUMBER) {
                emit(takeNumber(0, GREATEST_NUMBER));
            } else if (isSign('(')) {
                openNext();
                sumIfFine();
                expectSign(')');
                open--;
            } else if (word == MIN || word == MAX) {
                lesserOrGreater();
            } else if (asking && (word == HATE || word == TASTES)) {
                int operator = word == HATE ? Machine.HATE_OF : Machine.TASTE_OF;
                openNext();
                part();
                emit(operator);
                open--;
            } else if (word >= 0 && (facts >> word & 1) != 0) {
                emit(Machine.FACT + word);
                next();
            } else {
                refuse(FAULT_TEXT, start);
            }
        }

        private void lesserOrGreater() {
            int operator = word == MIN ? Machine.LESSER : Machine.GREATER;
            next();
            if (!isSign('(')) {
                refuse(FAULT_TEXT, start);
                return;
            }
            openNext();
            sumIfFine();
            expectSign(',');
            sumIfFine();
            expectSign(')');
            emit(operator);
            open--;
        }

        private void sumIfFine() {
            if (fault == 0) {
                sum();
            }
        }

        /** Refuses what would go deeper, so that tests and sums inside one another end. */
        private void openNext() {
            if (open >= MOST_OPEN) {
                refuse(FAULT_DEPTH, start);
            } else {
                next();
            }
            open++;
        }

        private void emit(int cell) {
            if (size >= 0 && size < code.length) {
                code[size] = cell;
                size++;
            }
        }

        private void skipBlanks() {
            for (int i = at; i >= 0 && i < length && (text[i] == 10 || text[i] == 32); i++) {
                at = i + 1;
            }
        }

        /** Digits too many are a fault, whatever they come to. */
        private int firstDigits() {
            int number = 0;
            for (int i = start; i >= 0 && i < at && i < start + MOST_DIGITS; i++) {
                number = 10 * number + text[i] - '0';
            }
            return number;
        }

        private int wordNumber() {
            int number = 0;
            int alike = 0;
            for (int i = 0; i < WORDS.length(); i++) {
                char c = WORDS.charAt(i);
                int place = start + alike;
                if (c == ' ') {
                    if (alike == at - start) {
                        return number;
                    }
                    number++;
                    alike = 0;
                } else if (alike >= 0 && place >= 0 && place < at && text[place] == c) {
                    alike++;
                } else {
                    alike = -1;
                }
            }
            return NO_WORD;
        }

        private static int kindOf(int c) {
            if (c >= 'a' && c <= 'z') {
                return A_WORD;
            }
            return c >= '0' && c <= '9' ? A_NUMBER : A_SIGN;
        }
    }

    /** Reads a duchy's statements. */
    private static final class DuchyReader {
        static final int MOST_STATEMENTS = 60;
        static final int OF_HOUSE = 1 << Reader.DAY | 1 << Reader.FLOUR | 1 << Reader.SALT | 1 << Reader.HUNGER;
        static final int OF_LOAF = OF_HOUSE | 1 << Reader.HATE;
        static final int OF_FEUD = 1 << Reader.DAY | 1 << Reader.HATE | 1 << Reader.LOAVES;

        final Reader in = new Reader();
        /** Not those in force, so that a text with a fault leaves these as they are, and none are made by a call. */
        private Rules rules = new Rules();
        private int toldKinds;

        Rules exchange(Rules old) {
            Rules read = rules;
            rules = old;
            return read;
        }

        void read(int[] text, int length) {
            toldKinds = 0;
            in.begin(text, length, rules.code, rules.clear());
            for (int i = 0; i <= MOST_STATEMENTS && in.fault == 0 && in.kind != Reader.AT_END; i++) {
                int word = in.word;
                if (i == MOST_STATEMENTS) {
                    in.refuse(Reader.FAULT_MANY, in.start);
                } else if ((i == 0) != (word == Reader.LOAF)) {
                    in.refuse(Reader.FAULT_TEXT, in.start);
                } else if (word == Reader.LOAF) {
                    in.next();
                    rules.loaf = in.takeNumber(1, 20);
                } else if (word == Reader.HOUSE) {
                    readHouse();
                } else if (word == Reader.FEUD) {
                    readFeud();
                } else if (word >= Reader.BAKES && word <= Reader.GROWS) {
                    readRule(word - Reader.BAKES);
                } else if (word == Reader.FAMINE) {
                    in.next();
                    rules.famine = in.takeNumber(0, 100);
                } else {
                    in.refuse(Reader.FAULT_TEXT, in.start);
                }
                in.expectSign(';');
                rules.statements++;
            }
            if (rules.statements == 0) {
                in.refuse(Reader.FAULT_TEXT, in.length);
            }
        }

        private void readHouse() {
            if (rules.houses >= MOST_HOUSES) {
                in.refuse(Reader.FAULT_MANY, in.start);
                return;
            }
            in.next();
            if (!in.isAtName()) {
                return;
            }
            if (rules.houseNamed(in.text, in.start, in.at) != NONE) {
                in.refuse(Reader.FAULT_NAME, in.start);
                return;
            }
            rules.nameNext(in.text, in.start, in.at);
            in.next();
            in.expectWord(Reader.FLOUR);
            int flour = in.takeNumber(0, GREATEST);
            in.expectWord(Reader.SALT);
            int salt = in.takeNumber(0, 9);
            rules.addNext(flour, salt);
        }

        private void readFeud() {
            in.next();
            int one = readKnownName(NONE);
            in.expectWord(Reader.WITH);
            int other = readKnownName(one);
            in.expectWord(Reader.HATE);
            int hate = in.takeNumber(1, GREATEST);
            if (in.fault == 0 && one >= 0 && other >= 0) {
                rules.hate[8 * one + other] = hate;
                rules.hate[8 * other + one] = hate;
            }
        }

        /** With a first house of a feud, a name that can be its second one. */
        private int readKnownName(int first) {
            if (in.fault != 0 || !in.isAtName()) {
                return NONE;
            }
            int house = rules.houseNamed(in.text, in.start, in.at);
            if (house == NONE || house == first || first >= 0 && rules.hate[8 * first + house] > 0) {
                in.refuse(Reader.FAULT_NAME, in.start);
                return NONE;
            }
            in.next();
            return house;
        }

        private void readRule(int kind) {
            if ((toldKinds >> kind & 1) != 0) {
                in.refuse(Reader.FAULT_MANY, in.start);
                return;
            }
            toldKinds |= 1 << kind;
            in.facts = factsOf(kind);
            int from = in.size;
            in.next();
            if (kind == Rules.STARVES) {
                in.test();
            } else {
                in.sum();
            }
            rules.place(kind, from, in.size);
        }

        private static int factsOf(int kind) {
            if (kind == Rules.COOLS) {
                return OF_FEUD;
            }
            return kind == Rules.BAKES || kind == Rules.TASTES ? OF_LOAF : OF_HOUSE;
        }
    }

    /** Works out code: numbers and facts are laid down, operators take what lies on top. */
    private static final class Machine {
        /** Cells from here on are facts by their word's number, those below are numbers. */
        static final int FACT = 10000;
        static final int PLUS = -1;
        static final int MINUS = -2;
        static final int TIMES = -3;
        static final int OVER = -4;
        static final int BELOW = -5;
        static final int ABOVE = -6;
        static final int SAME = -7;
        static final int BOTH = -8;
        static final int EITHER = -9;
        static final int LESSER = -10;
        static final int GREATER = -11;
        /** From here on down operators take one value. */
        static final int OPPOSITE = -12;
        static final int HATE_OF = -13;
        static final int TASTE_OF = -14;
        static final int LIMIT = 1000000;
        /** Far above what six that are open at once can leave lying. */
        static final int MOST_LYING = 64;

        final int[] facts = new int[Reader.OWN_WORDS];
        final int[] hateOf = new int[MOST_HOUSES];
        final int[] tasteOf = new int[MOST_HOUSES];
        private final int[] lying = new int[MOST_LYING];

        int value(int[] code, int from, int to) {
            int top = 0;
            int behind = to < code.length ? to : code.length;
            for (int i = from < 0 ? 0 : from; i < behind; i++) {
                int cell = code[i];
                if (cell >= FACT) {
                    int fact = cell - FACT;
                    if (top < MOST_LYING && fact < facts.length) {
                        lying[top] = facts[fact];
                        top++;
                    }
                } else if (cell >= 0) {
                    if (top < MOST_LYING) {
                        lying[top] = cell;
                        top++;
                    }
                } else if (cell <= OPPOSITE) {
                    if (top > 0) {
                        lying[top - 1] = single(cell, lying[top - 1]);
                    }
                } else if (top > 1) {
                    top--;
                    lying[top - 1] = joined(cell, lying[top - 1], lying[top]);
                }
            }
            return top > 0 ? lying[top - 1] : 0;
        }

        private int single(int operator, int a) {
            boolean known = a >= 0 && a < MOST_HOUSES;
            switch (operator) {
                case OPPOSITE: return a == 0 ? 1 : 0;
                case HATE_OF: return known ? hateOf[a] : 0;
                default: return known ? tasteOf[a] : NONE;
            }
        }

        private static int joined(int operator, int a, int b) {
            long whole;
            switch (operator) {
                case PLUS: whole = (long) a + b; break;
                case MINUS: whole = (long) a - b; break;
                case TIMES: whole = (long) a * b; break;
                case OVER: return b == 0 ? 0 : a / b - (a % b != 0 && (a < 0) != (b < 0) ? 1 : 0);
                case BELOW: return a < b ? 1 : 0;
                case ABOVE: return a > b ? 1 : 0;
                case SAME: return a == b ? 1 : 0;
                case BOTH: return a & b;
                case EITHER: return a | b;
                case LESSER: return a < b ? a : b;
                default: return a > b ? a : b;
            }
            return whole > LIMIT ? LIMIT : whole < -LIMIT ? -LIMIT : (int) whole;
        }
    }

    /** Lets days pass. */
    private static final class Calendar {
        Rules rules = new Rules();
        final Machine machine = new Machine();
        /** Of the latest day: who baked for each house, how it tasted, how many loaves there were. */
        final int[] bakerOf = new int[MOST_HOUSES];
        final int[] tasteOf = new int[MOST_HOUSES];
        int loaves;

        /** Tastes change nothing that comes later: they are left out where nobody asks for them. */
        void run(State state, int resting, boolean tasting) {
            serve(state, resting, tasting);
            starve(state);
            cool(state);
            grow(state);
            if (state.day < LAST_DAY) {
                state.day++;
            }
        }

        void serve(State state, int resting, boolean tasting) {
            // Who rests is as one that has baked already.
            int busy = resting;
            loaves = 0;
            for (int eater = 0; eater < MOST_HOUSES; eater++) {
                bakerOf[eater] = NONE;
                tasteOf[eater] = NO_LOAF;
                if (!state.isThere(eater)) {
                    continue;
                }
                int baker = pickBaker(state, eater, busy);
                if (baker < 0 || baker >= MOST_HOUSES) {
                    state.hunger[eater] = Math.min(HUNGRIEST, state.hunger[eater] + 1);
                    continue;
                }
                if (tasting) {
                    tasteOf[eater] = tasteOfLoaf(state, baker, eater);
                    state.keep(baker, eater, tasteOf[eater]);
                }
                bakerOf[eater] = baker;
                busy |= 1 << baker;
                loaves++;
                state.flour[baker] -= rules.loaf;
                state.hunger[eater] = 0;
            }
        }

        int tasteOfLoaf(State state, int baker, int eater) {
            tellLoaf(state, baker, eater);
            return bounded(machine.value(rules.code, rules.from[Rules.TASTES], rules.to[Rules.TASTES]));
        }

        private int pickBaker(State state, int eater, int busy) {
            int able = 0;
            int best = NONE;
            for (int house = 0; house < MOST_HOUSES; house++) {
                if (state.hate[8 * eater + house] > 0 && state.flour[house] >= rules.loaf
                        && (busy >> house & 1) == 0) {
                    able |= 1 << house;
                    best = house;
                }
            }
            // One alone need not be weighed.
            if (Integer.bitCount(able) < 2) {
                return best;
            }
            best = NONE;
            int most = 0;
            for (int house = 0; house < MOST_HOUSES; house++) {
                if ((able >> house & 1) != 0) {
                    tellLoaf(state, house, eater);
                    int worth = machine.value(rules.code, rules.from[Rules.BAKES], rules.to[Rules.BAKES]);
                    if (best == NONE || worth > most) {
                        best = house;
                        most = worth;
                    }
                }
            }
            return best;
        }

        private void starve(State state) {
            for (int house = 0; house < MOST_HOUSES; house++) {
                if (state.isThere(house)) {
                    tellHouse(state, house);
                    int holds = machine.value(rules.code, rules.from[Rules.STARVES], rules.to[Rules.STARVES]);
                    if (holds != 0) {
                        state.bury(house);
                    }
                }
            }
        }

        private void cool(State state) {
            machine.facts[Reader.DAY] = state.day;
            for (int one = 0; one < MOST_HOUSES; one++) {
                for (int other = one + 1; other < MOST_HOUSES; other++) {
                    int hate = state.hate[8 * one + other];
                    if (hate > 0) {
                        machine.facts[Reader.HATE] = hate;
                        machine.facts[Reader.LOAVES] =
                                (bakerOf[one] == other ? 1 : 0) + (bakerOf[other] == one ? 1 : 0);
                        int left = machine.value(rules.code, rules.from[Rules.COOLS], rules.to[Rules.COOLS]);
                        state.setHate(one, other, bounded(left));
                    }
                }
            }
        }

        private void grow(State state) {
            for (int house = 0; house < MOST_HOUSES; house++) {
                if (state.isThere(house)) {
                    tellHouse(state, house);
                    int more = machine.value(rules.code, rules.from[Rules.GROWS], rules.to[Rules.GROWS]);
                    state.flour[house] = bounded(state.flour[house] + more);
                }
            }
        }

        private void tellLoaf(State state, int baker, int eater) {
            machine.facts[Reader.DAY] = state.day;
            if (baker >= 0 && baker < MOST_HOUSES && eater >= 0 && eater < MOST_HOUSES) {
                machine.facts[Reader.FLOUR] = state.flour[baker];
                machine.facts[Reader.SALT] = rules.salt[baker];
                machine.facts[Reader.HUNGER] = state.hunger[eater];
                machine.facts[Reader.HATE] = state.hate[8 * eater + baker];
            }
        }

        void tellHouse(State state, int house) {
            machine.facts[Reader.DAY] = state.day;
            if (house >= 0 && house < MOST_HOUSES) {
                machine.facts[Reader.FLOUR] = state.flour[house];
                machine.facts[Reader.SALT] = rules.salt[house];
                machine.facts[Reader.HUNGER] = state.hunger[house];
            }
        }

        private static int bounded(int sum) {
            return sum < 0 ? 0 : sum > GREATEST ? GREATEST : sum;
        }
    }

    /** The states ahead of the latest acts. */
    private static final class History {
        static final int MOST_ACTS = 20;
        private final State[] states = new State[MOST_ACTS];
        private int next;
        int count;

        History() {
            for (int i = 0; i < MOST_ACTS; i++) {
                states[i] = new State();
            }
        }

        void remember(State now) {
            State state = states[next];
            if (state != null) {
                state.copyFrom(now);
            }
            next = (next + 1) % MOST_ACTS;
            count = Math.min(count + 1, MOST_ACTS);
        }

        boolean goBack(State now) {
            int latest = (next + MOST_ACTS - 1) % MOST_ACTS;
            State state = states[latest];
            if (count == 0 || state == null) {
                return false;
            }
            now.copyFrom(state);
            next = latest;
            count--;
            return true;
        }
    }

    /** Seeks who had best bake for whom now, and the feuds that are wanting. */
    private static final class Tables {
        static final int MOST_WANTED = 3;
        /** One who eats outweighs all hate that seven feuds can have. */
        static final int MEAL = 1000;

        int eaters;
        int hateTogether;
        final int[] bakerFor = new int[MOST_HOUSES];
        int wantedCount;
        final int[] wanted = new int[MOST_WANTED];
        private int seatedVersion = NONE;
        private int wantedVersion = NONE;
        private final int[] best = new int[(MOST_HOUSES + 1) * SETS];
        private final int[] worth = new int[PAIR_CELLS];
        private final int[] foes = new int[MOST_HOUSES];
        private final int[] reached = new int[SETS];

        void seat(Rules rules, State now, int version) {
            if (seatedVersion == version) {
                return;
            }
            seatedVersion = version;
            weighMeals(rules, now);
            Arrays.fill(best, 0);
            for (int eater = MOST_HOUSES - 1; eater >= 0; eater--) {
                for (int busy = 0; busy < SETS; busy++) {
                    best[eater * SETS + busy] = bestFrom(eater, busy);
                }
            }
            readRow(now);
        }

        private void weighMeals(Rules rules, State now) {
            for (int eater = 0; eater < MOST_HOUSES; eater++) {
                for (int baker = 0; baker < MOST_HOUSES; baker++) {
                    int hate = now.hate[8 * eater + baker];
                    boolean bakes = hate > 0 && now.flour[baker] >= rules.loaf;
                    worth[8 * eater + baker] = bakes ? MEAL - hate : 0;
                }
            }
        }

        /** The most worth of the meals of a house and those behind it, if some are busy baking already. */
        private int bestFrom(int eater, int busy) {
            int behind = (eater + 1) * SETS;
            int most = best[behind + busy];
            for (int baker = 0; baker < MOST_HOUSES; baker++) {
                int meal = worth[8 * eater + baker];
                if (meal > 0 && (busy >> baker & 1) == 0) {
                    most = Math.max(most, meal + best[behind + (busy | 1 << baker)]);
                }
            }
            return most;
        }

        private void readRow(State now) {
            eaters = 0;
            hateTogether = 0;
            int busy = 0;
            for (int eater = 0; eater < MOST_HOUSES; eater++) {
                int baker = firstBaker(eater, busy);
                bakerFor[eater] = baker;
                if (baker >= 0) {
                    eaters++;
                    hateTogether += now.hate[8 * eater + baker];
                    busy |= 1 << baker;
                }
            }
        }

        private int firstBaker(int eater, int busy) {
            int behind = (eater + 1) * SETS;
            int most = best[eater * SETS + busy];
            if (best[behind + busy] == most) {
                return NONE;
            }
            for (int baker = 0; baker < MOST_HOUSES; baker++) {
                int meal = worth[8 * eater + baker];
                if (meal > 0 && (busy >> baker & 1) == 0 && meal + best[behind + (busy | 1 << baker)] == most) {
                    return baker;
                }
            }
            return NONE;
        }

        /** The count is NONE when three are not enough. */
        void seekWanted(Rules rules, State now, int version) {
            if (wantedVersion == version) {
                return;
            }
            wantedVersion = version;
            wantedCount = NONE;
            // As many as eat must bake, so each one that is there.
            for (int house = 0; house < MOST_HOUSES; house++) {
                if (now.isThere(house) && now.flour[house] < rules.loaf) {
                    return;
                }
                foes[house] = foesOf(now, house);
            }
            for (int count = 0; count <= MOST_WANTED; count++) {
                if (addFeuds(now.there, 0, 0, count)) {
                    wantedCount = count;
                    return;
                }
            }
        }

        private static int foesOf(State now, int house) {
            int bits = 0;
            for (int other = 0; other < MOST_HOUSES; other++) {
                if (now.hate[8 * house + other] > 0) {
                    bits |= 1 << other;
                }
            }
            return bits;
        }

        /** Tries rows of pairs in their order: the first with which all eat stays in wanted. */
        private boolean addFeuds(int there, int from, int added, int count) {
            if (added >= count || added >= MOST_WANTED) {
                return allEat(there);
            }
            for (int pair = from; pair < 8 * MOST_HOUSES; pair++) {
                int one = pair / 8;
                int other = pair % 8;
                boolean both = other < MOST_HOUSES && (there >> one & there >> other & 1) != 0;
                if (one < other && both && (foes[one] >> other & 1) == 0) {
                    toggle(one, other);
                    boolean enough = addFeuds(there, pair + 1, added + 1, count);
                    toggle(one, other);
                    if (enough) {
                        wanted[added] = pair;
                        return true;
                    }
                }
            }
            return false;
        }

        private void toggle(int one, int other) {
            foes[one] ^= 1 << other;
            foes[other] ^= 1 << one;
        }

        /** Whether the eaters, one by one, can be given bakers, no one twice: by all sets of bakers that can be had. */
        private boolean allEat(int there) {
            Arrays.fill(reached, 0);
            reached[0] = 1;
            for (int busy = 0; busy < SETS - 1; busy++) {
                int eater = reached[busy] == 0 ? NONE : memberAt(there, Integer.bitCount(busy));
                int free = eater < 0 ? 0 : foes[eater] & ~busy;
                for (int baker = 0; baker < MOST_HOUSES; baker++) {
                    if ((free >> baker & 1) != 0) {
                        reached[busy | 1 << baker] = 1;
                    }
                }
            }
            return there >= 0 && there < SETS && reached[there] != 0;
        }

        private static int memberAt(int set, int k) {
            int left = k;
            for (int house = 0; house < MOST_HOUSES; house++) {
                if ((set >> house & 1) != 0) {
                    if (left == 0) {
                        return house;
                    }
                    left--;
                }
            }
            return NONE;
        }
    }

    /** Seeks feuds that can be ended, and houses that had better not bake. */
    private static final class Endings {
        static final int MOST_FEUDS = 10;
        static final int GONE = 10;

        int sparedBits;
        private final int[] pairs = new int[MOST_FEUDS];
        private int feuds;
        private int sparedVersion = NONE;
        private int sparedDays;
        private final int[] hungers = new int[SETS * MOST_HOUSES];

        void spare(Calendar calendar, State now, State ahead, int n, int version) {
            if (sparedVersion == version && sparedDays == n) {
                return;
            }
            sparedVersion = version;
            sparedDays = n;
            sparedBits = 0;
            listFeuds(now);
            ahead.copyFrom(now);
            for (int d = 0; d < n; d++) {
                calendar.run(ahead, 0, false);
            }
            int living = ahead.there;
            for (int size = feuds; size > 0; size--) {
                for (int bits = 0; bits < 1 << feuds; bits++) {
                    if (Integer.bitCount(bits) == size) {
                        ahead.copyFrom(now);
                        endFeuds(ahead, bits);
                        if (live(calendar, ahead, n, living)) {
                            sparedBits = bits;
                            return;
                        }
                    }
                }
            }
        }

        int sparedPair(int k) {
            int left = k;
            for (int i = 0; i < feuds && i < MOST_FEUDS; i++) {
                if ((sparedBits >> i & 1) != 0) {
                    if (left == 0) {
                        return pairs[i];
                    }
                    left--;
                }
            }
            return NONE;
        }

        private void listFeuds(State now) {
            feuds = 0;
            for (int one = 0; one < MOST_HOUSES; one++) {
                for (int other = one + 1; other < MOST_HOUSES; other++) {
                    if (now.hate[8 * one + other] > 0 && feuds < MOST_FEUDS) {
                        pairs[feuds] = 8 * one + other;
                        feuds++;
                    }
                }
            }
        }

        private void endFeuds(State ahead, int bits) {
            for (int i = 0; i < feuds && i < MOST_FEUDS; i++) {
                if ((bits >> i & 1) != 0) {
                    ahead.setHate(pairs[i] / 8, pairs[i] % 8, 0);
                }
            }
        }

        private static boolean live(Calendar calendar, State ahead, int n, int living) {
            for (int d = 0; d < n; d++) {
                calendar.run(ahead, 0, false);
                if ((living & ~ahead.there) != 0) {
                    return false;
                }
            }
            return true;
        }

        int restingSet(Calendar calendar, State now, State ahead, int n) {
            goHungry(calendar, now, ahead, n, 0);
            for (int size = 0; size <= MOST_HOUSES; size++) {
                // Only now the sets of one more: mostly a small one is at rest.
                for (int set = 0; set < SETS; set++) {
                    if ((set & ~now.there) == 0 && Integer.bitCount(set) == size + 1) {
                        goHungry(calendar, now, ahead, n, set);
                    }
                }
                for (int set = 0; set < SETS; set++) {
                    if ((set & ~now.there) == 0 && Integer.bitCount(set) == size && isAtRest(now, set)) {
                        return set;
                    }
                }
            }
            return NONE;
        }

        private void goHungry(Calendar calendar, State now, State ahead, int n, int set) {
            ahead.copyFrom(now);
            for (int d = 0; d < n; d++) {
                calendar.run(ahead, set, false);
            }
            for (int house = 0; house < MOST_HOUSES && set >= 0 && set < SETS; house++) {
                hungers[set * MOST_HOUSES + house] = ahead.isThere(house) ? ahead.hunger[house] : GONE;
            }
        }

        private boolean isAtRest(State now, int set) {
            for (int house = 0; house < MOST_HOUSES; house++) {
                int otherwise = set ^ 1 << house;
                if (now.isThere(house) && set >= 0 && set < SETS
                        && hungers[otherwise * MOST_HOUSES + house] < hungers[set * MOST_HOUSES + house]) {
                    return false;
                }
            }
            return true;
        }
    }

    /** What was seen of loaves, and what it tells of a house's flour. */
    private static final class Sight {
        static final int MOST_ROWS = 16;
        static final int DAYS = 31;
        static final int FLOURS = 100;
        /** A taste, or this for no loaf, takes seven bits: those of all houses together fit into one long. */
        static final int TASTED_NONE = 100;

        int rows;
        int left;
        int least;
        int greatest;
        int tellingDay;
        int tellingHouse;
        int tellingLeft;
        private final int[] seen = new int[3 * MOST_ROWS];
        private final int[] fits = new int[FLOURS];
        private final long[] tasted = new long[FLOURS * DAYS];
        private final int[] alike = new int[128];
        private int lookedVersion = NONE;
        private int lookedHouse;
        private int choseVersion = NONE;
        private int choseHouse;

        boolean take(int[] bytes, int length, int houses) {
            if (length < 3 || length > seen.length || length > bytes.length || length % 3 != 0) {
                return false;
            }
            for (int i = 0; i + 2 < length; i += 3) {
                boolean taste = bytes[i + 2] <= GREATEST || bytes[i + 2] == NO_LOAF;
                if (bytes[i] >= DAYS || bytes[i + 1] >= houses || !taste) {
                    return false;
                }
            }
            System.arraycopy(bytes, 0, seen, 0, length);
            rows = length / 3;
            return true;
        }

        void look(Calendar calendar, State now, State ahead, int house, int version) {
            if (lookedVersion == version && lookedHouse == house) {
                return;
            }
            lookedVersion = version;
            lookedHouse = house;
            left = 0;
            least = NONE;
            greatest = NONE;
            int days = daysSeen();
            for (int flour = 0; flour < FLOURS; flour++) {
                suppose(now, ahead, house, flour);
                boolean fit = allIsSo(calendar, ahead, days);
                fits[flour] = fit ? 1 : 0;
                if (fit) {
                    left++;
                    least = least == NONE ? flour : least;
                    greatest = flour;
                }
            }
        }

        private int daysSeen() {
            int days = 0;
            for (int i = 0; i < rows && i < MOST_ROWS; i++) {
                days = Math.max(days, seen[3 * i] + 1);
            }
            return days;
        }

        private static void suppose(State now, State ahead, int house, int flour) {
            ahead.copyFrom(now);
            if (house >= 0 && house < MOST_HOUSES) {
                ahead.flour[house] = flour;
            }
        }

        private boolean allIsSo(Calendar calendar, State ahead, int days) {
            for (int d = 0; d < days; d++) {
                if (ahead.day >= LAST_DAY) {
                    return false;
                }
                calendar.run(ahead, 0, true);
                for (int i = 0; i < rows && i < MOST_ROWS; i++) {
                    int eater = seen[3 * i + 1];
                    if (seen[3 * i] == d && eater >= 0 && eater < MOST_HOUSES
                            && calendar.tasteOf[eater] != seen[3 * i + 2]) {
                        return false;
                    }
                }
            }
            return true;
        }

        /** Goes by the numbers that the latest look() has left. */
        void choose(Calendar calendar, State now, State ahead, int house, int version) {
            if (choseVersion == version && choseHouse == house) {
                return;
            }
            choseVersion = version;
            choseHouse = house;
            tellingDay = NONE;
            tellingHouse = NONE;
            tellingLeft = NONE;
            if (left == 0) {
                return;
            }
            int days = Math.min(DAYS, LAST_DAY - now.day);
            for (int flour = 0; flour < FLOURS; flour++) {
                if (fits[flour] != 0) {
                    suppose(now, ahead, house, flour);
                    tasteDays(calendar, ahead, flour, days);
                }
            }
            for (int d = 0; d < days; d++) {
                for (int eater = 0; eater < calendar.rules.houses; eater++) {
                    int most = mostAlike(d, eater);
                    if (tellingLeft == NONE || most < tellingLeft) {
                        tellingDay = d;
                        tellingHouse = eater;
                        tellingLeft = most;
                    }
                }
            }
        }

        private void tasteDays(Calendar calendar, State ahead, int flour, int days) {
            for (int d = 0; d < days && d < DAYS; d++) {
                calendar.run(ahead, 0, true);
                long tastes = 0;
                for (int eater = 0; eater < MOST_HOUSES; eater++) {
                    long taste = Math.min(calendar.tasteOf[eater], TASTED_NONE);
                    tastes |= taste << 7 * eater;
                }
                tasted[flour * DAYS + d] = tastes;
            }
        }

        private int mostAlike(int day, int eater) {
            Arrays.fill(alike, 0);
            int most = 0;
            for (int flour = 0; flour < FLOURS && day >= 0 && day < DAYS; flour++) {
                if (fits[flour] != 0) {
                    int taste = (int) (tasted[flour * DAYS + day] >> 7 * eater & 127);
                    alike[taste]++;
                    most = Math.max(most, alike[taste]);
                }
            }
            return most;
        }
    }

    /** Reads and answers questions. */
    private static final class Asker {
        static final int OF_QUESTION = DuchyReader.OF_HOUSE | 1 << Reader.NUMBER | 1 << Reader.FEUDS;

        final Reader in = new Reader();
        private final int[] code = new int[Rules.CODE_CELLS];
        private int kind;

        void read(int[] text, int length) {
            in.asking = true;
            in.facts = OF_QUESTION;
            in.begin(text, length, code, 0);
            kind = in.word;
            if (kind == Reader.FIRST || kind == Reader.LAST || kind == Reader.OFTEN) {
                in.next();
                in.test();
            } else if (kind == Reader.TOTAL || kind == Reader.MOST || kind == Reader.LEAST) {
                in.next();
                in.sum();
            } else {
                in.refuse(Reader.FAULT_TEXT, in.start);
            }
            if (in.kind != Reader.AT_END) {
                in.refuse(Reader.FAULT_TEXT, in.start);
            }
        }

        long answer(Calendar calendar, State now) {
            boolean named = kind == Reader.FIRST || kind == Reader.LAST;
            long answer = named ? NONE : 0;
            boolean any = false;
            for (int house = 0; house < calendar.rules.houses; house++) {
                if (now.isThere(house)) {
                    tellAll(calendar, now, house);
                    int value = calendar.machine.value(code, 0, in.size);
                    answer = joined(answer, any, house, value);
                    any = true;
                }
            }
            return answer;
        }

        private long joined(long answer, boolean any, int house, int value) {
            switch (kind) {
                case Reader.FIRST: return answer == NONE && value != 0 ? house : answer;
                case Reader.LAST: return value != 0 ? house : answer;
                case Reader.MOST: return any ? Math.max(answer, value) : value;
                case Reader.LEAST: return any ? Math.min(answer, value) : value;
                default: return answer + value;
            }
        }

        private static void tellAll(Calendar calendar, State now, int house) {
            Machine machine = calendar.machine;
            for (int other = 0; other < MOST_HOUSES && house >= 0 && house < MOST_HOUSES; other++) {
                int hate = now.hate[8 * house + other];
                machine.hateOf[other] = hate;
                machine.tasteOf[other] = hate > 0 ? calendar.tasteOfLoaf(now, other, house) : NONE;
            }
            // Behind the tastes, as these are worked out by the same facts.
            calendar.tellHouse(now, house);
            machine.facts[Reader.NUMBER] = house;
            machine.facts[Reader.FEUDS] = now.countEnemies(house);
        }
    }
}
