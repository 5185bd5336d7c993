import java.math.BigInteger;
import java.util.ArrayDeque;
import java.util.ArrayList;
import java.util.Arrays;
import java.util.Deque;
import java.util.HashSet;
import java.util.List;
import java.util.Set;
import java.util.TreeSet;

/** The document told again in its plainest form, slowly and with the whole library, to be held against CurvePoints. */
final class Model {
    static final int NONE = -1;
    static final int FAR = -6;
    static final int ZERO = 1000;
    static final long NO_SUCH = Long.MIN_VALUE;

    record Frac(BigInteger u, BigInteger v) {
        static Frac of(BigInteger u, BigInteger v) {
            BigInteger g = u.gcd(v);
            if (v.signum() < 0) g = g.negate();
            return new Frac(u.divide(g), v.divide(g));
        }

        static Frac of(long u, long v) {
            return of(BigInteger.valueOf(u), BigInteger.valueOf(v));
        }

        static Frac of(long u) {
            return of(u, 1);
        }

        Frac plus(Frac o) {
            return of(u.multiply(o.v).add(o.u.multiply(v)), v.multiply(o.v));
        }

        Frac minus(Frac o) {
            return plus(new Frac(o.u.negate(), o.v));
        }

        Frac times(Frac o) {
            return of(u.multiply(o.u), v.multiply(o.v));
        }

        Frac by(Frac o) {
            return of(u.multiply(o.v), v.multiply(o.u));
        }

        BigInteger height() {
            return u.abs().max(v);
        }

        int compare(Frac o) {
            return u.multiply(o.v).compareTo(o.u.multiply(v));
        }

        boolean isNought() {
            return u.signum() == 0;
        }
    }

    /** A POINT as fractions; null is ZERO. */
    record Pt(Frac x, Frac y) {
        Pt turned() {
            return new Pt(x, Frac.of(0).minus(y));
        }
    }

    record Entry(int m, int n, int e) {
        Pt pt() {
            return new Pt(Frac.of(m, (long) e * e), Frac.of(n, (long) e * e * e));
        }
    }

    record State(int a, int b, int most, int deepest) {
    }

    record Klass(long d, int firstM, int firstE, boolean possible, boolean made) {
        boolean found() {
            return firstM >= 0;
        }
    }

    private final List<Integer> tape = new ArrayList<>();
    private String out = "";
    private int faultNumber = 0;
    private int faultPlace = NONE;
    private State state = null;
    private List<Entry> list = new ArrayList<>();
    private final Deque<State> past = new ArrayDeque<>();

    // ---- texts ----

    int feed(int a, int b, int c, int d, int e) {
        if (tape.size() + 20 > 200) return NONE;
        for (int number : new int[] {a, b, c, d, e}) {
            tape.add((number >> 24) & 255);
            tape.add((number >> 16) & 255);
            tape.add((number >> 8) & 255);
            tape.add(number & 255);
        }
        return tape.size();
    }

    int end(int n) {
        if (n < 0 || n > tape.size()) return NONE;
        while (tape.size() > n) tape.remove(tape.size() - 1);
        return n;
    }

    record Token(String text, int start) {
        boolean isNumber() {
            return !text.isEmpty() && Character.isDigit(text.charAt(0)) && text.charAt(0) < 128;
        }

        boolean above(int most) {
            return new BigInteger(text).compareTo(BigInteger.valueOf(most)) > 0;
        }

        boolean below(int least) {
            return new BigInteger(text).compareTo(BigInteger.valueOf(least)) < 0;
        }

        int value() {
            return new BigInteger(text).intValueExact();
        }
    }

    private static final class Fault extends RuntimeException {
        private static final long serialVersionUID = 1L;
        final int number;
        final int place;

        Fault(int number, int place) {
            this.number = number;
            this.place = place;
        }
    }

    /** The TOKENS, the end being one with an empty text. */
    private List<Token> tokens() {
        StringBuilder text = new StringBuilder();
        for (int sign : tape) text.append((char) sign);
        List<Token> all = new ArrayList<>();
        java.util.regex.Matcher matcher = java.util.regex.Pattern.compile("[a-z]+|[0-9]+|[^ \n]", java.util.regex.Pattern.DOTALL).matcher(text);
        while (matcher.find()) all.add(new Token(matcher.group(), matcher.start()));
        all.add(new Token("", text.length()));
        return all;
    }

    private int cursor;
    private List<Token> read;

    private Token look() {
        return read.get(cursor);
    }

    private Token must(String text) {
        if (!look().text.equals(text)) throw new Fault(1, look().start);
        return read.get(cursor++);
    }

    private Token mustNumber(int least, int most) {
        if (!look().isNumber()) throw new Fault(1, look().start);
        if (look().above(most) || look().below(least)) throw new Fault(2, look().start);
        return read.get(cursor++);
    }

    private boolean may(String text) {
        if (!look().text.equals(text)) return false;
        cursor++;
        return true;
    }

    int curve() {
        read = tokens();
        tape.clear();
        cursor = 0;
        faultNumber = 0;
        faultPlace = NONE;
        try {
            must("curve");
            boolean minusA = may("-");
            int a = mustNumber(0, 60).value() * (minusA ? -1 : 1);
            boolean minusB = may("-");
            Token numberB = mustNumber(0, 200);
            int b = numberB.value() * (minusB ? -1 : 1);
            if (b == 0 || a * a == 4 * b) throw new Fault(3, numberB.start);
            int most = 200;
            int deepest = 4;
            if (may("within")) {
                most = mustNumber(1, 1000).value();
                deepest = mustNumber(1, 6).value();
            }
            must(";");
            must("");
            past.clear();
            return become(new State(a, b, most, deepest));
        } catch (Fault f) {
            faultNumber = f.number;
            faultPlace = f.place;
            return -4;
        }
    }

    int formula() {
        if (state == null) return -2;
        read = tokens();
        tape.clear();
        cursor = 0;
        faultNumber = 0;
        faultPlace = NONE;
        try {
            int worth = term(may("-"));
            boolean far = worth == FAR;
            while (!look().text.isEmpty()) {
                boolean minus = may("-");
                if (!minus) must("+");
                int next = term(minus);
                far |= next == FAR;
                if (!far) worth = sum(worth, next);
                far |= worth == FAR;
            }
            return far ? FAR : worth;
        } catch (Fault f) {
            faultNumber = f.number;
            faultPlace = f.place;
            return -4;
        }
    }

    private int term(boolean minus) {
        if (may("zero")) return ZERO;
        int often = look().isNumber() ? mustNumber(0, 20).value() : 1;
        must("p");
        int i = mustNumber(0, list.size() - 1).value();
        int worth = times(i, often);
        return minus && worth != FAR ? turned(worth) : worth;
    }

    int fault(int what) {
        return what == 0 ? faultNumber : what == 1 ? faultPlace : NONE;
    }

    long count(int what) {
        if (what == 4) return list.size();
        if (what == 5) return tape.size();
        if (what == 6) return out.length();
        if (state == null || what < 0 || what > 6) return NO_SUCH;
        return new int[] {state.a, state.b, state.most, state.deepest}[what];
    }

    private static String fraction(long u, long v) {
        return v == 1 ? "" + u : u + "/" + v;
    }

    int tell(int i) {
        if (!isPoint(i)) return -2;
        if (i == ZERO) {
            out = "0";
        } else {
            Entry p = list.get(i);
            out = "(" + fraction(p.m, p.e * p.e) + ", " + fraction(p.n, p.e * p.e * p.e) + ")";
        }
        return out.length();
    }

    private static String signed(int factor, String power) {
        return (factor < 0 ? "-" : "+") + (Math.abs(factor) == 1 ? "" : "" + Math.abs(factor)) + power;
    }

    int tellCurve() {
        if (state == null) return -2;
        out = "yy=xxx" + (state.a == 0 ? "" : signed(state.a, "xx")) + signed(state.b, "x");
        return out.length();
    }

    int octet(int i) {
        return i < 0 || i >= out.length() ? NONE : out.charAt(i);
    }

    // ---- the curve ----

    private static long square(long value) {
        if (value < 0) return NONE;
        BigInteger root = BigInteger.valueOf(value).sqrt();
        return root.multiply(root).equals(BigInteger.valueOf(value)) ? root.longValue() : NONE;
    }

    private static long gcd(long x, long y) {
        return BigInteger.valueOf(x).gcd(BigInteger.valueOf(y)).longValue();
    }

    static List<Entry> listOf(int a, int b, int most, int deepest) {
        List<Entry> all = new ArrayList<>();
        for (int e = 1; e <= deepest; e++) {
            for (int m = -most; m <= most; m++) {
                if (gcd(m, e) != 1) continue;
                long f = (long) e * e;
                long n = square((long) m * m * m + a * (long) m * m * f + b * m * f * f);
                if (n < 0) continue;
                if (n > 0) all.add(new Entry(m, (int) -n, e));
                all.add(new Entry(m, (int) n, e));
            }
        }
        return all.size() > 120 ? new ArrayList<>(all.subList(0, 120)) : all;
    }

    private int become(State next) {
        state = next;
        list = listOf(next.a, next.b, next.most, next.deepest);
        return list.size();
    }

    private int change(State next) {
        past.addLast(state);
        if (past.size() > 10) past.removeFirst();
        return become(next);
    }

    private int changeCurve(int a, int b) {
        if (Math.abs(a) > 60 || Math.abs(b) > 200) return -5;
        return change(new State(a, b, state.most, state.deepest));
    }

    private int c() {
        return state.a * state.a - 4 * state.b;
    }

    int goesBeside() {
        return state == null ? -2 : changeCurve(-2 * state.a, c());
    }

    int twists(int d) {
        return state == null || d < -9 || d > 9 || d == 0 ? -2 : changeCurve(state.a * d, state.b * d * d);
    }

    int within(int m, int e) {
        if (state == null || m < 1 || m > 1000 || e < 1 || e > 6) return -2;
        return change(new State(state.a, state.b, m, e));
    }

    int undo() {
        if (state == null) return -2;
        if (past.isEmpty()) return NONE;
        become(past.removeLast());
        return past.size();
    }

    private boolean isListed(int i) {
        return state != null && i >= 0 && i < list.size();
    }

    private boolean isPoint(int i) {
        return state != null && i == ZERO || isListed(i);
    }

    private Pt pt(int i) {
        return i == ZERO ? null : list.get(i).pt();
    }

    private static int indexIn(List<Entry> points, Pt p) {
        if (p == null) return ZERO;
        for (int i = 0; i < points.size(); i++) {
            if (points.get(i).pt().equals(p)) return i;
        }
        return FAR;
    }

    private int index(Pt p) {
        return indexIn(list, p);
    }

    private Pt add(Pt p, Pt q) {
        if (p == null) return q;
        if (q == null) return p;
        if (p.turned().equals(q)) return null;
        Frac a = Frac.of(state.a);
        Frac s = p.equals(q)
            ? Frac.of(3).times(p.x).times(p.x).plus(Frac.of(2).times(a).times(p.x)).plus(Frac.of(state.b)).by(Frac.of(2).times(p.y))
            : p.y.minus(q.y).by(p.x.minus(q.x));
        Frac x = s.times(s).minus(a).minus(p.x).minus(q.x);
        return new Pt(x, s.times(p.x.minus(x)).minus(p.y));
    }

    private static Pt turn(Pt p) {
        return p == null ? null : p.turned();
    }

    long point(int i, int what) {
        if (!isListed(i) || what < 0 || what > 2) return NO_SUCH;
        Entry p = list.get(i);
        return what == 0 ? p.m : what == 1 ? p.n : p.e;
    }

    int at(int m, int e, int sign) {
        if (state == null || Math.abs((long) sign) > 1) return -2;
        for (int i = 0; i < list.size(); i++) {
            Entry p = list.get(i);
            if (p.m == m && p.e == e && Integer.signum(p.n) == sign) return i;
        }
        return NONE;
    }

    int turned(int i) {
        return isPoint(i) ? index(turn(pt(i))) : -2;
    }

    int sum(int i, int j) {
        return isPoint(i) && isPoint(j) ? index(add(pt(i), pt(j))) : -2;
    }

    long of(int i, int j, int how, int what) {
        if (!isListed(i) || !isListed(j) || how < 0 || how > 1 || what < 0 || what > 2) return NO_SUCH;
        Pt p = add(pt(i), how == 0 ? pt(j) : turn(pt(j)));
        if (p == null) return NO_SUCH;
        return (what == 0 ? p.x.u : what == 1 ? p.x.v : p.x.height()).longValueExact();
    }

    int times(int i, int k) {
        if (!isPoint(i) || k < -20 || k > 20) return -2;
        if (k == 0) return ZERO;
        if (k < 0) {
            int other = times(i, -k);
            return other == FAR ? FAR : turned(other);
        }
        int ahead = times(i, k - 1);
        return ahead == FAR ? FAR : sum(ahead, i);
    }

    int order(int i) {
        if (!isPoint(i)) return -2;
        for (int k = 1; k <= 12; k++) {
            int reached = times(i, k);
            if (reached == FAR) return 0;
            if (reached == ZERO) return k;
        }
        return 0;
    }

    int round(int what) {
        if (state == null || what < 0 || what > 2) return -2;
        List<Integer> orders = new ArrayList<>();
        orders.add(1);
        for (int i = 0; i < list.size(); i++) if (order(i) != 0) orders.add(order(i));
        if (what == 0) return orders.size();
        if (what == 1) return orders.stream().mapToInt(k -> k).max().getAsInt();
        return (int) orders.stream().filter(k -> k == 2).count();
    }

    // ---- BY A PRIME ----

    private static boolean isPrime(int p) {
        return p >= 2 && p <= 97 && BigInteger.valueOf(p).isProbablePrime(30);
    }

    private boolean good(int p) {
        return state != null && p > 2 && isPrime(p) && state.b % p != 0 && c() % p != 0;
    }

    private static int mod(long value, int p) {
        return (int) (((value % p) + p) % p);
    }

    private static int inverse(int value, int p) {
        return BigInteger.valueOf(value).modInverse(BigInteger.valueOf(p)).intValue();
    }

    /** x and y by the prime; an empty list is ZERO. */
    private List<List<Integer>> pointsBy(int p) {
        List<List<Integer>> all = new ArrayList<>();
        all.add(List.of());
        for (int x = 0; x < p; x++) {
            for (int y = 0; y < p; y++) {
                if (mod((long) y * y - (long) x * x * x - (long) state.a * x * x - (long) state.b * x, p) == 0) all.add(List.of(x, y));
            }
        }
        return all;
    }

    private List<Integer> addBy(List<Integer> one, List<Integer> other, int p) {
        if (one.isEmpty()) return other;
        if (other.isEmpty()) return one;
        long x = one.get(0), y = one.get(1), z = other.get(0), w = other.get(1);
        if (x == z && mod(y + w, p) == 0) return List.of();
        long s = x == z
            ? mod((3 * x * x + 2 * state.a * x + state.b) * inverse(mod(2 * y, p), p), p)
            : mod((y - w) * inverse(mod(x - z, p), p), p);
        int u = mod(s * s - state.a - x - z, p);
        return List.of(u, mod(s * (x - u) - y, p));
    }

    private List<Integer> pointBy(int i, int p) {
        if (i == ZERO || list.get(i).e % p == 0) return List.of();
        Entry q = list.get(i);
        long inverse = inverse(mod(q.e, p), p);
        return List.of(mod(q.m * inverse * inverse, p), mod(q.n * inverse * inverse * inverse, p));
    }

    private int orderOf(List<Integer> point, int p) {
        int k = 1;
        List<Integer> reached = point;
        while (!reached.isEmpty()) {
            reached = addBy(reached, point, p);
            k++;
        }
        return k;
    }

    int many(int p) {
        return good(p) ? pointsBy(p).size() : -2;
    }

    int orderBy(int i, int p) {
        return isPoint(i) && good(p) ? orderOf(pointBy(i, p), p) : -2;
    }

    int bound() {
        if (state == null) return -2;
        long g = 0;
        for (int p = 3; p <= 97; p++) if (good(p)) g = gcd(g, many(p));
        return (int) g;
    }

    long trace(int p) {
        return good(p) ? p + 1 - many(p) : NO_SUCH;
    }

    long traces(int n) {
        if (state == null || n < 0 || n > 97) return NO_SUCH;
        long all = 0;
        for (int p = 3; p <= n; p++) if (good(p)) all += trace(p);
        return all;
    }

    int groupBy(int p, int what) {
        if (!good(p) || what < 0 || what > 1) return -2;
        int most = 0;
        for (List<Integer> q : pointsBy(p)) most = Math.max(most, orderOf(q, p));
        return what == 0 ? most : many(p) / most;
    }

    int bestBy(int p, int what) {
        if (!good(p) || what < 0 || what > 1) return -2;
        int most = groupBy(p, 0);
        for (List<Integer> q : pointsBy(p)) {
            if (orderOf(q, p) == most) return q.isEmpty() ? NONE : q.get(what);
        }
        throw new IllegalStateException();
    }

    int logBy(int i, int j, int p) {
        if (!isPoint(i) || !isPoint(j) || !good(p)) return -2;
        List<Integer> reached = List.of();
        for (int k = 0; k < 300; k++) {
            if (reached.equals(pointBy(j, p))) return k;
            reached = addBy(reached, pointBy(i, p), p);
        }
        return NONE;
    }

    int seenBy(int p) {
        if (!good(p)) return -2;
        Set<List<Integer>> seen = new HashSet<>();
        for (int i = 0; i < list.size(); i++) seen.add(pointBy(i, p));
        return seen.size();
    }

    int firstAlike(int i, int j) {
        if (!isPoint(i) || !isPoint(j)) return -2;
        for (int p = 3; p <= 97; p++) if (good(p) && pointBy(i, p).equals(pointBy(j, p))) return p;
        return NONE;
    }

    int bad(int p) {
        if (state == null || p == 2 || !isPrime(p) || good(p)) return -2;
        int value = mod(state.b % p == 0 ? state.a : -2L * state.a, p);
        if (value == 0) return 3;
        for (int r = 1; r < p; r++) if (r * r % p == value) return 1;
        return 2;
    }

    long breaks(int p) {
        if (state == null || p != 0 && !isPrime(p)) return NO_SUCH;
        long all = 16L * state.b * state.b * c();
        if (p == 0) return all;
        int often = 0;
        for (; all % p == 0; all /= p) often++;
        return often;
    }

    // ---- CLASSES ----

    private static boolean withoutSquare(long d) {
        for (long f = 2; f * f <= Math.abs(d); f++) if (d % (f * f) == 0) return false;
        return true;
    }

    private static long strip(long d) {
        for (long f = 2; f * f <= Math.abs(d); f++) while (d % (f * f) == 0) d /= f * f;
        return d;
    }

    private static boolean possible(long a, long b, long d) {
        if (!(d > 0 || b / d > 0 || a > 0 && a * a - 4 * b > 0)) return false;
        int[] moduli = {16, 9, 25, 49, 11, 13};
        int[] primes = {2, 3, 5, 7, 11, 13};
        for (int k = 0; k < 6; k++) {
            int q = moduli[k];
            boolean[] squares = new boolean[q];
            for (int s = 0; s < q; s++) squares[s * s % q] = true;
            boolean some = false;
            for (int m = 0; m < q; m++) {
                for (int e = 0; e < q; e++) {
                    if (m % primes[k] == 0 && e % primes[k] == 0) continue;
                    some |= squares[mod(value(a, b, d, m, e), q)];
                }
            }
            if (!some) return false;
        }
        return true;
    }

    private static long value(long a, long b, long d, long m, long e) {
        return d * m * m * m * m + a * m * m * e * e + b / d * e * e * e * e;
    }

    static List<Klass> classesOf(long a, long b) {
        List<Klass> all = new ArrayList<>();
        for (long size = 1; size <= Math.abs(b); size++) {
            if (b % size != 0 || !withoutSquare(size)) continue;
            for (long d : new long[] {size, -size}) {
                int firstM = NONE;
                int firstE = NONE;
                for (int e = 0; e <= 20 && firstM < 0; e++) {
                    for (int m = 0; m <= 20 && firstM < 0; m++) {
                        if (gcd(m, e) != 1 || square(value(a, b, d, m, e)) < 0) continue;
                        firstM = m;
                        firstE = e;
                    }
                }
                all.add(new Klass(d, firstM, firstE, possible(a, b, d), false));
            }
        }
        Set<Long> made = new TreeSet<>();
        made.add(1L);
        for (Klass k : all) if (k.found()) made.add(k.d);
        for (int before = 0; before != made.size();) {
            before = made.size();
            for (long d : List.copyOf(made)) for (long f : List.copyOf(made)) made.add(strip(d * f));
        }
        all.replaceAll(k -> new Klass(k.d, k.firstM, k.firstE, k.possible, made.contains(k.d)));
        return all;
    }

    List<Klass> side(int side) {
        return side == 0 ? classesOf(state.a, state.b) : classesOf(-2L * state.a, c());
    }

    int classes(int side, int what) {
        if (state == null || side < 0 || side > 1 || what < 0 || what > 3) return -2;
        int many = 0;
        for (Klass k : side(side)) {
            if (what == 0 || what == 1 && k.found() || what == 2 && k.possible || what == 3 && k.made) many++;
        }
        return many;
    }

    long classOf(int side, int k, int what) {
        if (state == null || side < 0 || side > 1 || what < 0 || what > 5) return NO_SUCH;
        if (k < 0 || k >= side(side).size()) return NO_SUCH;
        Klass one = side(side).get(k);
        switch (what) {
            case 0: return one.d;
            case 1: return one.found() ? 1 : 0;
            case 2: return one.possible ? 1 : 0;
            case 3: return one.made ? 1 : 0;
            case 4: return one.found() ? one.firstM : NO_SUCH;
            default: return one.found() ? one.firstE : NO_SUCH;
        }
    }

    private static int halvings(long many) {
        int often = 0;
        for (; many > 1; many /= 2) often++;
        return often;
    }

    private static int leastRank(long a, long b) {
        long one = classesOf(a, b).stream().filter(Klass::made).count();
        long other = classesOf(-2 * a, a * a - 4 * b).stream().filter(Klass::made).count();
        return Math.max(0, halvings(one) + halvings(other) - 2);
    }

    int rank(int what) {
        if (state == null || what < 0 || what > 1) return -2;
        if (what == 0) return leastRank(state.a, state.b);
        return Math.max(0, halvings(classes(0, 2)) + halvings(classes(1, 2)) - 2);
    }

    int turnsRank(int r) {
        if (state == null || r < 0 || r > 9) return -2;
        int bits = 0;
        for (int d = -9; d <= 9; d++) {
            int a = state.a * d;
            int b = state.b * d * d;
            if (d == 0 || Math.abs(a) > 60 || Math.abs(b) > 200) continue;
            if (leastRank(a, b) >= r) bits += 1 << (9 + d);
        }
        return bits;
    }

    long classAt(int i) {
        if (!isListed(i)) return NO_SUCH;
        Frac x = pt(i).x;
        if (x.isNought()) x = Frac.of(state.b);
        for (Klass k : side(0)) {
            Frac by = x.by(Frac.of(k.d));
            if (square(by.u.longValueExact()) >= 0 && square(by.v.longValueExact()) >= 0) return k.d;
        }
        return NO_SUCH;
    }

    int shows(int k) {
        if (state == null || k < 0 || k >= side(0).size()) return -2;
        Klass one = side(0).get(k);
        if (!one.found()) return NONE;
        if (one.firstE == 0) return ZERO;
        long root = square(value(state.a, state.b, one.d, one.firstM, one.firstE));
        long e = one.firstE;
        return index(new Pt(Frac.of(one.d * one.firstM * one.firstM, e * e), Frac.of(one.d * one.firstM * root, e * e * e)));
    }

    // ---- heights, what is made ----

    private static int bitsOf(Pt p) {
        return p == null ? 0 : p.x.height().bitLength();
    }

    int bits(int i) {
        return isPoint(i) ? bitsOf(pt(i)) : -2;
    }

    long parallel(int i, int j) {
        if (!isListed(i) || !isListed(j)) return NO_SUCH;
        return bitsOf(add(pt(i), pt(j))) + bitsOf(add(pt(i), turn(pt(j)))) - 2 * bits(i) - 2 * bits(j);
    }

    private Set<Integer> madeBy(List<Integer> makers) {
        Set<Integer> all = new TreeSet<>(makers);
        all.add(ZERO);
        for (int before = 0; before != all.size();) {
            before = all.size();
            for (int one : List.copyOf(all)) {
                for (int maker : makers) {
                    all.add(index(add(pt(one), pt(maker))));
                    all.add(index(add(pt(one), turn(pt(maker)))));
                }
            }
            all.remove(FAR);
        }
        return all;
    }

    int made(int i, int j) {
        return isPoint(i) && isPoint(j) ? madeBy(List.of(i, j)).size() : -2;
    }

    int makers(int k) {
        if (state == null || k < NONE) return -2;
        List<Integer> makers = new ArrayList<>();
        Set<Integer> made = madeBy(makers);
        for (int i = 0; i < list.size(); i++) {
            if (made.contains(i)) continue;
            makers.add(i);
            made = madeBy(makers);
        }
        if (k == NONE) return makers.size();
        return k < makers.size() ? makers.get(k) : NONE;
    }

    private long search(int i, int j, int goal, int what) {
        int[] best = null;
        for (int s = -5; s <= 5; s++) {
            for (int t = -5; t <= 5; t++) {
                if (goal == NONE && s == 0 && t == 0) continue;
                int one = times(i, s);
                int other = times(j, t);
                if (one == FAR || other == FAR) continue;
                int both = sum(one, other);
                if (both == FAR || goal != NONE && both != goal || goal == NONE && order(both) == 0) continue;
                int[] found = {Math.abs(s) + Math.abs(t), s, t};
                if (best == null || Arrays.compare(found, best) < 0) best = found;
            }
        }
        return best == null ? NO_SUCH : best[1 + what];
    }

    long related(int i, int j, int what) {
        return isPoint(i) && isPoint(j) && what >= 0 && what <= 1 ? search(i, j, NONE, what) : NO_SUCH;
    }

    long solves(int i, int j, int k, int what) {
        if (!isPoint(i) || !isPoint(j) || !isPoint(k) || what < 0 || what > 1) return NO_SUCH;
        return search(i, j, k, what);
    }

    int above(int h) {
        if (state == null || h < 1 || h > 1000) return -2;
        for (int i = 0; i < list.size(); i++) if (pt(i).x.height().intValueExact() >= h) return i;
        return NONE;
    }

    int upTo(int h) {
        if (state == null || h < 1 || h > 1000) return -2;
        int many = 0;
        for (int i = 0; i < list.size(); i++) if (pt(i).x.height().intValueExact() <= h) many++;
        return many;
    }

    long same(int what) {
        if (state == null || what < 0 || what > 1) return NO_SUCH;
        BigInteger base = BigInteger.valueOf((long) state.a * state.a - 3L * state.b);
        Frac all = Frac.of(base.pow(3).multiply(BigInteger.valueOf(256)), BigInteger.valueOf((long) state.b * state.b * c()));
        return (what == 0 ? all.u : all.v).longValueExact();
    }

    int half(int i, int k) {
        if (!isPoint(i) || k < 0) return -2;
        List<Integer> halves = halves(i);
        return k < halves.size() ? halves.get(k) : NONE;
    }

    private List<Integer> halves(int i) {
        List<Integer> all = new ArrayList<>();
        for (int j = 0; j < list.size(); j++) if (index(add(pt(j), pt(j))) == i) all.add(j);
        return all;
    }

    int deep(int i) {
        return isListed(i) ? deepFrom(i, new HashSet<>()) : -2;
    }

    private int deepFrom(int i, Set<Integer> ahead) {
        ahead.add(i);
        int most = 0;
        for (int j : halves(i)) if (!ahead.contains(j)) most = Math.max(most, deepFrom(j, ahead));
        ahead.remove(i);
        return most + 1;
    }

    int straight(int i, int j, int k) {
        if (!isPoint(i) || !isPoint(j) || !isPoint(k)) return -2;
        return add(add(pt(i), pt(j)), pt(k)) == null ? 1 : 0;
    }

    int lines() {
        if (state == null) return -2;
        int many = 0;
        for (int i = 0; i < list.size(); i++) {
            for (int j = i + 1; j < list.size(); j++) {
                int third = index(turn(add(pt(i), pt(j))));
                if (third > j && third != ZERO) many++;
            }
        }
        return many;
    }

    int part(int i) {
        if (!isPoint(i)) return -2;
        if (i == ZERO || c() < 0) return 0;
        double root = Math.sqrt(c());
        double[] zeros = {0, (-state.a - root) / 2, (-state.a + root) / 2};
        Arrays.sort(zeros);
        double x = (double) list.get(i).m / (list.get(i).e * list.get(i).e);
        return x <= (zeros[1] + zeros[2]) / 2 ? 1 : 0;
    }

    int walk(int i) {
        if (!isPoint(i)) return -2;
        int many = 0;
        while (many < 20 && times(i, many + 1) != FAR && times(i, many + 1) != ZERO) many++;
        return many;
    }

    int between(int u, int v, int w) {
        if (state == null || Math.abs((long) u) > 9999 || Math.abs((long) v) > 9999 || w < 1 || w > 99) return -2;
        int many = 0;
        for (Entry p : list) if (p.pt().x.compare(Frac.of(u, w)) >= 0 && p.pt().x.compare(Frac.of(v, w)) <= 0) many++;
        return many;
    }

    int nearest(int u, int w) {
        if (state == null || Math.abs((long) u) > 9999 || w < 1 || w > 99) return -2;
        int best = NONE;
        Frac least = null;
        for (int i = 0; i < list.size(); i++) {
            Frac gap = pt(i).x.minus(Frac.of(u, w));
            gap = new Frac(gap.u.abs(), gap.v);
            if (least == null || gap.compare(least) < 0) {
                least = gap;
                best = i;
            }
        }
        return best;
    }

    int sorts(int e, int what) {
        if (state == null || what < 0 || what > 1 || what == 0 && (e < 1 || e > 6)) return -2;
        int many = 0;
        for (Entry p : list) if (what == 0 ? p.e == e : square(Math.abs(p.m)) >= 0) many++;
        return many;
    }

    // ---- the curve BESIDE ----

    private List<Entry> besideList() {
        return listOf(-2 * state.a, c(), state.most, state.deepest);
    }

    long beside(int i, int what) {
        if (!isListed(i) || list.get(i).m == 0 || what < 0 || what > 1) return NO_SUCH;
        Frac x = pt(i).y.times(pt(i).y).by(pt(i).x.times(pt(i).x));
        return (what == 0 ? x.u : x.v).longValueExact();
    }

    int overMany() {
        return state == null ? -2 : besideList().size();
    }

    long overPoint(int j, int what) {
        if (state == null || j < 0 || j >= overMany() || what < 0 || what > 2) return NO_SUCH;
        Entry p = besideList().get(j);
        return what == 0 ? p.m : what == 1 ? p.n : p.e;
    }

    private static Pt goOver(Pt p, int b, int byX, int byY) {
        if (p == null || p.x.isNought()) return null;
        Frac square = p.x.times(p.x);
        return new Pt(p.y.times(p.y).by(square.times(Frac.of(byX))), p.y.times(Frac.of(b).minus(square)).by(square.times(Frac.of(byY))));
    }

    int over(int i) {
        return isPoint(i) ? indexIn(besideList(), goOver(pt(i), state.b, 1, 1)) : -2;
    }

    int back(int j) {
        if (state == null || j != ZERO && (j < 0 || j >= overMany())) return -2;
        return index(goOver(j == ZERO ? null : besideList().get(j).pt(), c(), 4, 8));
    }
}
