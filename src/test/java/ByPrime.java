/** The twos BY A PRIME, added by trying all: -1 is ZERO, others are x times 100 and y. */
final class ByPrime {
    static final int NOUGHT = -1;

    private final int p;
    private final long a;
    private final long b;

    ByPrime(long a, long b, int p) {
        this.a = a;
        this.b = b;
        this.p = p;
    }

    private int rest(long value) {
        return (int) Math.floorMod(value, (long) p);
    }

    private int quotient(long above, long below) {
        for (int k = 0; k < p; k++) if (rest(k * below - above) == 0) return k;
        throw new IllegalStateException(above + " by " + below + " modulo " + p);
    }

    boolean holds(long x, long y) {
        return rest(x * x * x + a * x * x + b * x - y * y) == 0;
    }

    int code(long m, long n, long e) {
        if (rest(e) == 0) return NOUGHT;
        return quotient(m, e * e) * 100 + quotient(n, e * e * e);
    }

    int sum(int one, int other) {
        if (one == NOUGHT) return other;
        if (other == NOUGHT) return one;
        long x = one / 100;
        long y = one % 100;
        long u = other / 100;
        long v = other % 100;
        if (x == u && rest(y + v) == 0) return NOUGHT;
        long s = x == u ? quotient(3 * x * x + 2 * a * x + b, 2 * y) : quotient(y - v, rest(x - u));
        int third = rest(s * s - a - x - u);
        return third * 100 + rest(s * (x - third) - y);
    }

    int order(int code) {
        int k = 1;
        for (int reached = code; reached != NOUGHT; k++) reached = sum(reached, code);
        return k;
    }

    int log(int code, int goal) {
        int reached = NOUGHT;
        for (int k = 0; k < 200; k++) {
            if (reached == goal) return k;
            reached = sum(reached, code);
        }
        return -1;
    }

    int many() {
        int many = 1;
        for (int x = 0; x < p; x++) {
            for (int y = 0; y < p; y++) if (holds(x, y)) many++;
        }
        return many;
    }

    /** The first POINT with the greatest order. */
    int best() {
        int best = NOUGHT;
        for (int x = 0; x < p; x++) {
            for (int y = 0; y < p; y++) if (holds(x, y) && order(x * 100 + y) > order(best)) best = x * 100 + y;
        }
        return best;
    }
}
