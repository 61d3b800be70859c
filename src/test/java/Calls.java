/** What tests by hand need to call the program: texts onto the tape, duchies, images, draws. */
class Calls {
    static final int NONE = EnemyBread.NONE;
    static final long NOTHING = EnemyBread.NOTHING;

    static EnemyBread put(EnemyBread x, String s) {
        for (int i = 0; i < s.length(); i += 20) {
            int[] five = new int[5];
            for (int k = 0; k < 20; k++) {
                five[k / 4] = five[k / 4] << 8 | (i + k < s.length() ? s.charAt(i + k) & 255 : 32);
            }
            x.feed(five[0], five[1], five[2], five[3], five[4]);
        }
        x.end(s.length());
        return x;
    }

    static EnemyBread put(EnemyBread x, int... bytes) {
        StringBuilder b = new StringBuilder();
        for (int i : bytes) {
            b.append((char) i);
        }
        return put(x, b.toString());
    }

    /** An image's bytes with its last one. */
    static int[] image(int day, int[] houses, int... hates) {
        int[] b = new int[3 + houses.length + hates.length];
        b[0] = day / 256;
        b[1] = day % 256;
        System.arraycopy(houses, 0, b, 2, houses.length);
        System.arraycopy(hates, 0, b, 2 + houses.length, hates.length);
        return withLast(b);
    }

    /** The bytes with a last one that fits those ahead of it. */
    static int[] withLast(int... b) {
        int c = 233;
        for (int i = 0; i < b.length - 1; i++) {
            c = (3 * c + b[i]) % 251;
        }
        b[b.length - 1] = c;
        return b;
    }

    /** The seed as the document tells it, beside the program's own. */
    static long x;

    static int draw(int m) {
        x = (1103515245L * x + 12345) % 2147483648L;
        return (int) (x / 64 % m);
    }
}
