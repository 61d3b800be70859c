import java.util.Random;

/** Calls with any arguments in any state: none may throw, and refused ones must say so in what they answer. */
public final class RoughTest extends Calls {
    private static final int[] EDGES = {Integer.MIN_VALUE, Integer.MIN_VALUE + 1, -1000, -2, -1, 0, 1, 2, 3, 4, 5, 6, 7, 8,
        9, 10, 19, 20, 21, 30, 31, 59, 60, 61, 98, 99, 100, 101, 255, 256, 999, 1000, 1600, Integer.MAX_VALUE - 1,
        Integer.MAX_VALUE};

    private final Random r;
    private final Texts texts;
    private final EnemyBread x = new EnemyBread();

    private RoughTest(long seed) {
        r = new Random(seed);
        texts = new Texts(r);
    }

    private int any() {
        return r.nextInt(3) == 0 ? r.nextInt(8) : EDGES[r.nextInt(EDGES.length)];
    }

    private long call(int k) {
        switch (k) {
            case 0: return x.feed(r.nextInt(), r.nextInt(), r.nextInt(), r.nextInt(), r.nextInt());
            case 1: return x.end(any()) ? 1 : 0;
            case 2: return x.duchy();
            case 3: return x.fault(any());
            case 4: return x.has(any());
            case 5: return x.letter(any(), any());
            case 6: return x.house(any(), any());
            case 7: return x.hate(any(), any());
            case 8: return x.baker(any());
            case 9: return x.taste(any(), any());
            case 10: return x.kept(any(), any());
            case 11: return x.later(any(), any(), any());
            case 12: return x.cooled(any(), any(), any());
            case 13: return x.starves(any());
            case 14: return x.table(any());
            case 15: return x.wanting(any());
            case 16: return x.spared(any(), any());
            case 17: return x.rest(any());
            case 18: return x.see();
            case 19: return x.flour(any(), any());
            case 20: return x.tells(any(), any());
            case 21: return x.feud(any(), any(), any()) ? 1 : 0;
            case 22: return x.bring(any(), any()) ? 1 : 0;
            case 23: return x.days(any());
            case 24: return x.chance(any());
            case 25: return x.undo() ? 1 : 0;
            case 26: return x.seed(any()) ? 1 : 0;
            case 27: return x.ask() == EnemyBread.NOTHING ? 0 : 1;
            case 28: return x.image();
            case 29: return x.octet(any());
            case 30: return x.on() ? 1 : 0;
            default: return x.status(any());
        }
    }

    private int run() {
        int wrong = 0;
        for (int i = 0; i < 512; i++) {
            int k = r.nextInt(32);
            if (k == 2 && r.nextInt(4) > 0) {
                put(x, texts.duchy());
            }
            if (k == 27 && r.nextInt(4) > 0) {
                put(x, texts.question());
            }
            long answer = call(k);
            if (answer < -1 || answer > 1600) {
                wrong++;
                System.out.println("call " + k + " answered " + answer);
            }
            if (x.has(2) > 999 || x.has(3) > x.has(1) || x.has(6) > 40 || x.has(8) > 20) {
                wrong++;
                System.out.println("behind call " + k + " there is more than can be");
            }
        }
        return wrong;
    }

    public static void main(String[] args) {
        int wrong = 0;
        for (int i = 0; i < 400; i++) {
            wrong += new RoughTest(77000 + i).run();
        }
        System.out.println(wrong == 0 ? "no call threw" : wrong + " answers can't be");
        if (wrong != 0) {
            System.exit(1);
        }
    }
}
