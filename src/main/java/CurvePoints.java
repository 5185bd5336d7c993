import java.util.Arrays;

/** Points with fractions on curves y y = x x x + a x x + b x; the promises stand in shared/DOC.md. */
public final class CurvePoints {
    public static final int NONE = -1;
    public static final int FAR = -6;
    public static final int ZERO = 1000;
    public static final long NO_SUCH = Long.MIN_VALUE;

    private static final int REFUSED = -2;
    private static final int FAULTY = -4;
    private static final int OUT_OF_BOUNDS = -5;

    private static final int A_MOST = 60;
    private static final int B_MOST = 200;
    private static final int M_MOST = 1000;
    private static final int E_MOST = 6;
    private static final int LIST_MOST = 120;
    /** The LIST's end may part a POINT from its TURNED one, which is held behind it unseen. */
    private static final int HELD_MOST = LIST_MOST + 1;
    private static final int TAPE_MOST = 200;
    private static final int FEED_BYTES = 20;
    private static final int TIMES_MOST = 20;
    private static final int ORDER_MOST = 12;
    private static final int FACTOR_MOST = 5;
    private static final int TURN_MOST = 9;
    private static final int BY_MOST = 97;
    private static final int U_MOST = 9999;
    private static final int W_MOST = 99;

    private static final int[] PRIMES = {
        2, 3, 5, 7, 11, 13, 17, 19, 23, 29, 31, 37, 41, 43, 47, 53, 59, 61, 67, 71, 73, 79, 83, 89, 97
    };

    private final Reader reader;
    private final Told told;
    private final History history;
    private final PointList list;
    private final PointList besideList;
    private final Sums sums;
    private final Closure listMakers;
    private final Closure pairMade;
    private final PrimeGroup group;
    private final ClassTable sideZero;
    private final ClassTable sideOne;
    private final ClassTable turnSide;
    private final int[] turnRanks;
    private boolean ready;
    private boolean besideReady;
    private boolean turnsReady;

    public CurvePoints() {
        reader = new Reader();
        told = new Told();
        history = new History();
        Sieve sieve = new Sieve();
        list = new PointList(sieve);
        besideList = new PointList(sieve);
        sums = new Sums(list);
        listMakers = new Closure(sums);
        pairMade = new Closure(sums);
        group = new PrimeGroup();
        sideZero = new ClassTable();
        sideOne = new ClassTable();
        turnSide = new ClassTable();
        turnRanks = new int[2 * TURN_MOST + 1];
    }

    // ---- the texts ----

    public int feed(int a, int b, int c, int d, int e) {
        if (reader.length() + FEED_BYTES > TAPE_MOST) return NONE;
        reader.push(a);
        reader.push(b);
        reader.push(c);
        reader.push(d);
        reader.push(e);
        return reader.length();
    }

    public int end(int n) {
        if (n < 0 || n > reader.length()) return NONE;
        reader.cut(n);
        return n;
    }

    public int curve() {
        boolean fine = reader.readCurve();
        reader.cut(0);
        if (!fine) return FAULTY;
        history.clear();
        return become(reader.number(0), reader.number(1), reader.number(2), reader.number(3));
    }

    public int fault(int what) {
        if (what == 0) return reader.faultNumber();
        return what == 1 ? reader.faultPlace() : NONE;
    }

    public long count(int what) {
        if (what == 4) return list.shown();
        if (what == 5) return reader.length();
        if (what == 6) return told.length();
        if (!ready) return NO_SUCH;
        switch (what) {
            case 0: return list.a();
            case 1: return list.b();
            case 2: return list.most();
            case 3: return list.deepest();
            default: return NO_SUCH;
        }
    }

    public int formula() {
        // A refused formula is not read, so the latest FAULT stays as it was.
        if (!ready) return REFUSED;
        reader.begin();
        int worth = readFormula();
        reader.cut(0);
        return reader.faultNumber() == 0 ? worth : FAULTY;
    }

    private int readFormula() {
        boolean minus = reader.isByte('-');
        if (minus) reader.next();
        int worth = readTerm(minus);
        for (int k = 0; k < TAPE_MOST && !reader.isDone(); k++) {
            minus = reader.isByte('-');
            if (!minus && !reader.isByte('+')) {
                reader.refuse(1);
                return FAR;
            }
            reader.next();
            int term = readTerm(minus);
            worth = sums.total(worth, term);
        }
        return worth;
    }

    private int readTerm(boolean minus) {
        if (reader.isWord("zero")) {
            reader.next();
            return ZERO;
        }
        int often = 1;
        if (reader.isNumber()) {
            if (!reader.fits(0, TIMES_MOST)) return FAR;
            often = reader.value();
            reader.next();
        }
        if (!reader.takeWord("p") || !reader.fits(0, list.shown() - 1)) return FAR;
        int i = reader.value();
        reader.next();
        return sums.multiple(i, minus ? -often : often);
    }

    public int tell(int i) {
        if (!isPoint(i)) return REFUSED;
        told.clear();
        if (i == ZERO) {
            told.putNumber(0);
            return told.length();
        }
        int e = list.e(i);
        told.putByte('(');
        tellFraction(list.m(i), e * e);
        told.putText(", ");
        tellFraction(list.n(i), e * e * e);
        told.putByte(')');
        return told.length();
    }

    private void tellFraction(int above, int below) {
        told.putNumber(above);
        if (below == 1) return;
        told.putByte('/');
        told.putNumber(below);
    }

    public int tellCurve() {
        if (!ready) return REFUSED;
        told.clear();
        told.putText("yy=xxx");
        if (list.a() != 0) tellPart(list.a(), "xx");
        tellPart(list.b(), "x");
        return told.length();
    }

    private void tellPart(int factor, String power) {
        told.putByte(factor < 0 ? '-' : '+');
        if (factor != 1 && factor != -1) told.putNumber(Math.abs(factor));
        told.putText(power);
    }

    public int octet(int i) {
        return told.byteAt(i);
    }

    // ---- the CURVE becomes another one ----

    private int become(int a, int b, int most, int deepest) {
        boolean alike = ready && a == list.a() && b == list.b();
        if (!alike) {
            turnsReady = false;
            group.renew(a, b);
        }
        list.fill(a, b, most, deepest);
        sums.renew();
        listMakers.forget();
        besideReady = false;
        ready = true;
        return list.shown();
    }

    private int change(int a, int b, int most, int deepest) {
        history.push(list.a(), list.b(), list.most(), list.deepest());
        return become(a, b, most, deepest);
    }

    private static boolean inBounds(int a, int b) {
        return a >= -A_MOST && a <= A_MOST && b >= -B_MOST && b <= B_MOST;
    }

    public int goesBeside() {
        if (!ready) return REFUSED;
        int a = -2 * list.a();
        int b = besideB();
        return inBounds(a, b) ? change(a, b, list.most(), list.deepest()) : OUT_OF_BOUNDS;
    }

    public int twists(int d) {
        if (!ready || d == 0 || d < -TURN_MOST || d > TURN_MOST) return REFUSED;
        int a = list.a() * d;
        int b = list.b() * d * d;
        return inBounds(a, b) ? change(a, b, list.most(), list.deepest()) : OUT_OF_BOUNDS;
    }

    public int within(int m, int e) {
        if (!ready || m < 1 || m > M_MOST || e < 1 || e > E_MOST) return REFUSED;
        return change(list.a(), list.b(), m, e);
    }

    public int undo() {
        if (!ready) return REFUSED;
        if (history.depth() == 0) return NONE;
        history.pop();
        become(history.latest(0), history.latest(1), history.latest(2), history.latest(3));
        return history.depth();
    }

    // ---- POINTS of the LIST ----

    private boolean isListed(int i) {
        return ready && i >= 0 && i < list.shown();
    }

    private boolean isPoint(int i) {
        return ready && (i == ZERO || isListed(i));
    }

    private int besideB() {
        return list.a() * list.a() - 4 * list.b();
    }

    public long point(int i, int what) {
        return isListed(i) ? list.coordinate(i, what) : NO_SUCH;
    }

    public int at(int m, int e, int sign) {
        if (!ready || sign < -1 || sign > 1) return REFUSED;
        for (int i = 0; i < list.shown(); i++) {
            if (list.m(i) == m && list.e(i) == e && Integer.signum(list.n(i)) == sign) return i;
        }
        return NONE;
    }

    public int turned(int i) {
        return isPoint(i) ? sums.shownOnly(sums.negative(i)) : REFUSED;
    }

    public int above(int h) {
        if (!ready || h < 1 || h > M_MOST) return REFUSED;
        for (int i = 0; i < list.shown(); i++) {
            if (list.height(i) >= h) return i;
        }
        return NONE;
    }

    public int upTo(int h) {
        if (!ready || h < 1 || h > M_MOST) return REFUSED;
        int many = 0;
        for (int i = 0; i < list.shown(); i++) {
            if (list.height(i) <= h) many++;
        }
        return many;
    }

    public int bits(int i) {
        if (!isPoint(i)) return REFUSED;
        return i == ZERO ? 0 : Whole.digits(list.height(i));
    }

    public int part(int i) {
        if (!isPoint(i)) return REFUSED;
        if (i == ZERO || besideB() < 0) return 0;
        int m = list.m(i);
        if (list.b() < 0) return m <= 0 ? 1 : 0;
        if (list.a() > 0) return m < 0 ? 1 : 0;
        // Both roots other than 0 are above it: -a by 2 lies between them, where no POINT is.
        return 2 * m < -list.a() * list.e(i) * list.e(i) ? 1 : 0;
    }

    public int between(int u, int v, int w) {
        if (!ready || !isPlace(u, w) || !isPlace(v, w)) return REFUSED;
        int many = 0;
        for (int i = 0; i < list.shown(); i++) {
            int square = list.e(i) * list.e(i);
            int m = list.m(i) * w;
            if (m >= u * square && m <= v * square) many++;
        }
        return many;
    }

    private static boolean isPlace(int u, int w) {
        return u >= -U_MOST && u <= U_MOST && w >= 1 && w <= W_MOST;
    }

    public int nearest(int u, int w) {
        if (!ready || !isPlace(u, w)) return REFUSED;
        int best = NONE;
        long bestGap = 0;
        long bestSquare = 1;
        for (int i = 0; i < list.shown(); i++) {
            long square = (long) list.e(i) * list.e(i);
            long gap = Math.abs((long) list.m(i) * w - u * square);
            if (best == NONE || gap * bestSquare < bestGap * square) {
                best = i;
                bestGap = gap;
                bestSquare = square;
            }
        }
        return best;
    }

    public int sorts(int e, int what) {
        boolean byE = what == 0;
        if (!ready || (!byE && what != 1) || (byE && (e < 1 || e > E_MOST))) return REFUSED;
        int many = 0;
        for (int i = 0; i < list.shown(); i++) {
            boolean counts = byE ? list.e(i) == e : Whole.rootOf(Math.abs(list.m(i))) >= 0;
            if (counts) many++;
        }
        return many;
    }

    // ---- SUMS ----

    public int sum(int i, int j) {
        return isPoint(i) && isPoint(j) ? sums.total(i, j) : REFUSED;
    }

    public long of(int i, int j, int how, int what) {
        if (!isListed(i) || !isListed(j) || how < 0 || how > 1 || what < 0 || what > 2) return NO_SUCH;
        Adder adder = sums.joined(i, how == 0 ? j : sums.negative(j));
        if (adder.isZero()) return NO_SUCH;
        if (what == 0) return adder.top();
        return what == 1 ? adder.under() : adder.height();
    }

    public long parallel(int i, int j) {
        if (!isListed(i) || !isListed(j)) return NO_SUCH;
        long both = 2L * (bits(i) + bits(j));
        long sumBits = sums.joined(i, j).heightDigits();
        long lessBits = sums.joined(i, sums.negative(j)).heightDigits();
        return sumBits + lessBits - both;
    }

    public int times(int i, int k) {
        if (!isPoint(i) || k < -TIMES_MOST || k > TIMES_MOST) return REFUSED;
        return sums.multiple(i, k);
    }

    public int walk(int i) {
        if (!isPoint(i)) return REFUSED;
        int reached = ZERO;
        for (int k = 0; k < TIMES_MOST; k++) {
            reached = sums.total(reached, i);
            if (reached == FAR || reached == ZERO) return k;
        }
        return TIMES_MOST;
    }

    public int order(int i) {
        return isPoint(i) ? sums.orderOf(i) : REFUSED;
    }

    public int round(int what) {
        if (!ready || what < 0 || what > 2) return REFUSED;
        int many = 1;
        int greatest = 1;
        int twos = 0;
        for (int i = 0; i < list.shown(); i++) {
            int order = sums.orderOf(i);
            if (order > 0) many++;
            if (order == 2) twos++;
            greatest = Math.max(greatest, order);
        }
        if (what == 0) return many;
        return what == 1 ? greatest : twos;
    }

    public int half(int i, int k) {
        if (!isPoint(i) || k < 0) return REFUSED;
        int seen = 0;
        for (int j = 0; j < list.shown(); j++) {
            if (sums.total(j, j) != i) continue;
            if (seen == k) return j;
            seen++;
        }
        return NONE;
    }

    public int straight(int i, int j, int k) {
        if (!isPoint(i) || !isPoint(j) || !isPoint(k)) return REFUSED;
        return sums.heldTotal(i, j) == sums.negative(k) ? 1 : 0;
    }

    public int lines() {
        return ready ? sums.lineCount() : REFUSED;
    }

    public int deep(int i) {
        if (!isListed(i)) return REFUSED;
        int most = 1;
        for (int j = 0; j < list.shown(); j++) {
            most = Math.max(most, sums.doublingsTo(j, i) + 1);
        }
        return most;
    }

    public long related(int i, int j, int what) {
        if (!isPoint(i) || !isPoint(j) || what < 0 || what > 1) return NO_SUCH;
        return sums.findFactors(i, j, NONE) ? sums.factor(what) : NO_SUCH;
    }

    public long solves(int i, int j, int k, int what) {
        if (!isPoint(i) || !isPoint(j) || !isPoint(k) || what < 0 || what > 1) return NO_SUCH;
        return sums.findFactors(i, j, k) ? sums.factor(what) : NO_SUCH;
    }

    public int made(int i, int j) {
        if (!isPoint(i) || !isPoint(j)) return REFUSED;
        pairMade.forget();
        pairMade.addMaker(i);
        pairMade.addMaker(j);
        return pairMade.size();
    }

    public int makers(int k) {
        if (!ready || k < NONE) return REFUSED;
        listMakers.gather();
        if (k == NONE) return listMakers.makerCount();
        return k < listMakers.makerCount() ? listMakers.maker(k) : NONE;
    }

    // ---- BY A PRIME ----

    private boolean isByPrime(int p) {
        return ready && p != 2 && primeIndex(p) != NONE
            && Whole.residue(list.b(), p) != 0 && Whole.residue(besideB(), p) != 0;
    }

    private static int primeIndex(int p) {
        for (int k = 0; k < PRIMES.length; k++) {
            if (PRIMES[k] == p) return k;
        }
        return NONE;
    }

    private int codeBy(int i) {
        return i == ZERO ? NONE : group.codeOf(list.m(i), list.n(i), list.e(i));
    }

    public int many(int p) {
        return isByPrime(p) ? group.manyBy(p) : REFUSED;
    }

    public long trace(int p) {
        return isByPrime(p) ? p + 1 - group.manyBy(p) : NO_SUCH;
    }

    public long traces(int n) {
        if (!ready || n < 0 || n > BY_MOST) return NO_SUCH;
        long all = 0;
        for (int p : PRIMES) {
            if (p <= n && isByPrime(p)) all += p + 1 - group.manyBy(p);
        }
        return all;
    }

    public int bound() {
        if (!ready) return REFUSED;
        long shared = 0;
        for (int p : PRIMES) {
            if (isByPrime(p)) shared = Whole.gcd(shared, group.manyBy(p));
        }
        return (int) shared;
    }

    public int orderBy(int i, int p) {
        if (!isPoint(i) || !isByPrime(p)) return REFUSED;
        group.take(p);
        return group.orderOfCode(codeBy(i));
    }

    public int groupBy(int p, int what) {
        if (!isByPrime(p) || what < 0 || what > 1) return REFUSED;
        group.take(p);
        int greatest = group.greatestOrder();
        return what == 0 ? greatest : (int) Whole.quotient(group.manyBy(p), greatest);
    }

    public int bestBy(int p, int what) {
        if (!isByPrime(p) || what < 0 || what > 1) return REFUSED;
        group.take(p);
        return group.bestPart(what);
    }

    public int logBy(int i, int j, int p) {
        if (!isPoint(i) || !isPoint(j) || !isByPrime(p)) return REFUSED;
        group.take(p);
        return group.logOf(codeBy(i), codeBy(j));
    }

    public int seenBy(int p) {
        if (!isByPrime(p)) return REFUSED;
        group.take(p);
        group.clearSeen();
        int many = 0;
        for (int i = 0; i < list.shown(); i++) {
            if (group.seesNew(codeBy(i))) many++;
        }
        return many;
    }

    public int firstAlike(int i, int j) {
        if (!isPoint(i) || !isPoint(j)) return REFUSED;
        for (int p : PRIMES) {
            if (isByPrime(p) && isAlikeBy(i, j, p)) return p;
        }
        return NONE;
    }

    private boolean isAlikeBy(int i, int j, int p) {
        boolean firstZero = i == ZERO || Whole.residue(list.e(i), p) == 0;
        boolean otherZero = j == ZERO || Whole.residue(list.e(j), p) == 0;
        if (firstZero || otherZero) return firstZero && otherZero;
        long e = list.e(i);
        long f = list.e(j);
        return Whole.residue(list.m(i) * f * f - list.m(j) * e * e, p) == 0
            && Whole.residue(list.n(i) * f * f * f - list.n(j) * e * e * e, p) == 0;
    }

    public int bad(int p) {
        if (!ready || p == 2 || primeIndex(p) == NONE || isByPrime(p)) return REFUSED;
        boolean dividesB = Whole.residue(list.b(), p) == 0;
        int rest = Whole.residue(dividesB ? list.a() : -2L * list.a(), p);
        if (rest == 0) return 3;
        for (int root = 1; root < p; root++) {
            if (Whole.residue((long) root * root, p) == rest) return 1;
        }
        return 2;
    }

    public long breaks(int p) {
        if (!ready || (p != 0 && primeIndex(p) == NONE)) return NO_SUCH;
        long left = 16L * list.b() * list.b() * besideB();
        if (p == 0) return left;
        int often = 0;
        for (int k = 0; k < 64 && Whole.residue(left, p) == 0; k++) {
            left = Whole.quotient(left, p);
            often++;
        }
        return often;
    }

    public long same(int what) {
        if (!ready || what < 0 || what > 1) return NO_SUCH;
        long base = (long) list.a() * list.a() - 3L * list.b();
        long above = 256 * base * base * base;
        long below = (long) list.b() * list.b() * besideB();
        long shared = Whole.gcd(above, below);
        if (below < 0) shared = -shared;
        return Whole.quotient(what == 0 ? above : below, shared);
    }

    // ---- CLASSES ----

    private ClassTable side(int side) {
        if (side == 0) {
            sideZero.prepare(list.a(), list.b());
            return sideZero;
        }
        sideOne.prepare(-2 * list.a(), besideB());
        return sideOne;
    }

    public int classes(int side, int what) {
        if (!ready || side < 0 || side > 1 || what < 0 || what > 3) return REFUSED;
        return side(side).tally(what);
    }

    public long classOf(int side, int k, int what) {
        if (!ready || side < 0 || side > 1 || what < 0 || what > 5) return NO_SUCH;
        ClassTable table = side(side);
        if (k < 0 || k >= table.size()) return NO_SUCH;
        switch (what) {
            case 0: return table.divisor(k);
            case 1: return table.isFound(k) ? 1 : 0;
            case 2: return table.isPossible(k) ? 1 : 0;
            case 3: return table.isMade(k) ? 1 : 0;
            case 4: return table.isFound(k) ? table.firstM(k) : NO_SUCH;
            default: return table.isFound(k) ? table.firstE(k) : NO_SUCH;
        }
    }

    public int rank(int what) {
        if (!ready || what < 0 || what > 1) return REFUSED;
        int tallied = what == 0 ? 3 : 2;
        return Math.max(0, side(0).halvings(tallied) + side(1).halvings(tallied) - 2);
    }

    public long classAt(int i) {
        if (!isListed(i)) return NO_SUCH;
        int m = list.m(i);
        int d = Whole.withoutSquares(m == 0 ? list.b() : m);
        return Whole.residue(list.b(), Math.abs(d)) == 0 ? d : NO_SUCH;
    }

    public int shows(int k) {
        if (!ready || k < 0 || k >= side(0).size()) return REFUSED;
        ClassTable table = side(0);
        if (!table.isFound(k)) return NONE;
        long e = table.firstE(k);
        if (e == 0) return ZERO;
        long d = table.divisor(k);
        long m = table.firstM(k);
        long shared = Whole.gcd(d * m * m, e * e);
        long depth = Whole.rootOf(Whole.quotient(e * e, shared));
        if (depth < 1) return FAR;
        long above = Whole.quotient(d * m * m, shared);
        long n = Whole.quotient(d * m * table.firstRoot(k) * depth * depth * depth, e * e * e);
        return sums.shownOnly(list.find(above, n, depth));
    }

    public int turnsRank(int r) {
        if (!ready || r < 0 || r > TURN_MOST) return REFUSED;
        if (!turnsReady) fillTurnRanks();
        int bits = 0;
        for (int k = 0; k < turnRanks.length; k++) {
            if (turnRanks[k] >= r) bits |= 1 << k;
        }
        return bits;
    }

    private void fillTurnRanks() {
        for (int k = 0; k < turnRanks.length; k++) {
            int d = k - TURN_MOST;
            int a = list.a() * d;
            int b = list.b() * d * d;
            turnRanks[k] = NONE;
            if (d == 0 || !inBounds(a, b)) continue;
            turnSide.prepare(a, b);
            int halvings = turnSide.halvings(3);
            turnSide.prepare(-2 * a, a * a - 4 * b);
            turnRanks[k] = Math.max(0, halvings + turnSide.halvings(3) - 2);
        }
        turnsReady = true;
    }

    // ---- the curve BESIDE ----

    private void readyBeside() {
        if (besideReady) return;
        besideList.fill(-2 * list.a(), besideB(), list.most(), list.deepest());
        besideReady = true;
    }

    public long beside(int i, int what) {
        if (!isListed(i) || list.m(i) == 0 || what < 0 || what > 1) return NO_SUCH;
        long n = list.n(i);
        long below = (long) list.m(i) * list.e(i);
        long root = Whole.quotient(what == 0 ? n : below, Whole.gcd(n, below));
        return root * root;
    }

    public int overMany() {
        if (!ready) return REFUSED;
        readyBeside();
        return besideList.shown();
    }

    public long overPoint(int j, int what) {
        if (!ready) return NO_SUCH;
        readyBeside();
        return j >= 0 && j < besideList.shown() ? besideList.coordinate(j, what) : NO_SUCH;
    }

    public int over(int i) {
        if (!isPoint(i)) return REFUSED;
        readyBeside();
        return goOver(list, i, besideList, 1);
    }

    public int back(int j) {
        if (!ready) return REFUSED;
        readyBeside();
        if (j != ZERO && (j < 0 || j >= besideList.shown())) return REFUSED;
        return goOver(besideList, j, list, 2);
    }

    /** x to y y by x x, y to y (b - x x) by x x; by the scale 2 back again, x by its square, y by its cube. */
    private static int goOver(PointList from, int i, PointList to, int scale) {
        if (i == ZERO || from.m(i) == 0) return ZERO;
        long m = from.m(i);
        long n = from.n(i);
        long e = from.e(i);
        long below = scale * m * e;
        long shared = Whole.gcd(n, below);
        long root = Whole.quotient(n, shared);
        long depth = Math.abs(Whole.quotient(below, shared));
        if (depth > to.deepest()) return FAR;
        long rise = n * (from.b() * e * e * e * e - m * m) * depth * depth * depth;
        long run = (long) scale * scale * scale * e * e * e * m * m;
        int place = to.find(root * root, Whole.quotient(rise, run), depth);
        return place < to.shown() ? place : FAR;
    }

    // ---- whole numbers, and rows looked at ahead of each use ----

    private static final class Whole {
        private static final long SQUARES_BY_64 = 0x0202021202030213L;
        private static final long SQUARES_BY_63 = 0x0402483012450293L;

        private Whole() {
        }

        static int pick(int[] row, int i) {
            return i >= 0 && i < row.length ? row[i] : 0;
        }

        static void store(int[] row, int i, int value) {
            if (i >= 0 && i < row.length) row[i] = value;
        }

        static long quotient(long above, long below) {
            return below == 0 ? 0 : above / below;
        }

        static int residue(long value, int p) {
            if (p <= 0) return 0;
            int rest = (int) (value % p);
            return rest < 0 ? rest + p : rest;
        }

        static long gcd(long one, long other) {
            long x = one < 0 ? -one : one;
            long y = other < 0 ? -other : other;
            for (int step = 0; step < 200 && y != 0; step++) {
                long rest = x % y;
                x = y;
                y = rest;
            }
            return x;
        }

        /** The whole root, NONE without; the two masks let few other numbers through to the slow part. */
        static long rootOf(long value) {
            if (value < 0 || (SQUARES_BY_64 >>> (int) (value & 63) & 1) == 0) return NONE;
            if ((SQUARES_BY_63 >>> (int) (value % 63) & 1) == 0) return NONE;
            long root = 1L << (65 - Long.numberOfLeadingZeros(value)) / 2;
            for (int step = 0; step < 64 && root > 0; step++) {
                long next = (root + value / root) / 2;
                if (next >= root) break;
                root = next;
            }
            return root * root == value ? root : NONE;
        }

        static int digits(long value) {
            return 64 - Long.numberOfLeadingZeros(value);
        }

        static int withoutSquares(int value) {
            int left = value;
            for (int f = 2; f * f <= Math.abs(left) && f < 100; f++) {
                for (int k = 0; k < 32 && left % (f * f) == 0; k++) left /= f * f;
            }
            return left;
        }
    }

    // ---- the TAPE and its TOKENS ----

    private static final class Reader {
        private static final int END = 0;
        private static final int WORD = 1;
        private static final int NUMBER = 2;
        private static final int SINGLE = 3;
        private static final int VALUE_MOST = 1000000;

        private final int[] tape = new int[TAPE_MOST];
        private final int[] numbers = new int[4];
        private int length;
        private int kind;
        private int start;
        private int stop;
        private int value;
        private int fault;
        private int place = NONE;

        int length() {
            return length;
        }

        int faultNumber() {
            return fault;
        }

        int faultPlace() {
            return place;
        }

        int value() {
            return value;
        }

        int number(int k) {
            return Whole.pick(numbers, k);
        }

        void cut(int n) {
            length = n;
        }

        void push(int four) {
            for (int shift = 24; shift >= 0; shift -= 8) {
                Whole.store(tape, length, four >>> shift & 255);
                length++;
            }
        }

        void begin() {
            fault = 0;
            place = NONE;
            stop = 0;
            next();
        }

        private int byteAt(int i) {
            return i < length ? Whole.pick(tape, i) : NONE;
        }

        private static int kindOf(int sign) {
            if (sign < 0) return END;
            if (sign >= 'a' && sign <= 'z') return WORD;
            return sign >= '0' && sign <= '9' ? NUMBER : SINGLE;
        }

        void next() {
            start = stop;
            while (start < length && (byteAt(start) == ' ' || byteAt(start) == '\n')) start++;
            stop = start;
            value = 0;
            kind = kindOf(byteAt(start));
            if (kind == SINGLE) stop++;
            if (kind == END || kind == SINGLE) return;
            while (stop < length && kindOf(byteAt(stop)) == kind) {
                value = Math.min(VALUE_MOST, value * 10 + byteAt(stop) - '0');
                stop++;
            }
        }

        boolean refuse(int number) {
            if (fault == 0) {
                fault = number;
                place = start;
            }
            kind = END;
            return false;
        }

        boolean isDone() {
            return kind == END;
        }

        boolean isNumber() {
            return kind == NUMBER;
        }

        boolean isByte(int sign) {
            return kind == SINGLE && byteAt(start) == sign;
        }

        boolean isWord(String word) {
            if (kind != WORD || stop - start != word.length()) return false;
            for (int k = 0; k < word.length(); k++) {
                if (byteAt(start + k) != word.charAt(k)) return false;
            }
            return true;
        }

        boolean fits(int least, int most) {
            if (kind != NUMBER) return refuse(1);
            return value >= least && value <= most || refuse(2);
        }

        boolean takeWord(String word) {
            if (!isWord(word)) return refuse(1);
            next();
            return true;
        }

        private boolean takeNumber(int slot, int least, int most) {
            boolean minus = least < 0 && isByte('-');
            if (minus) next();
            if (!fits(Math.max(0, least), most)) return false;
            Whole.store(numbers, slot, minus ? -value : value);
            if (slot == 1 && isFlat()) return refuse(3);
            next();
            return true;
        }

        private boolean isFlat() {
            int a = number(0);
            int b = number(1);
            return b == 0 || a * a - 4 * b == 0;
        }

        private boolean takeBounds() {
            Whole.store(numbers, 2, 200);
            Whole.store(numbers, 3, 4);
            if (!isWord("within")) return true;
            next();
            return takeNumber(2, 1, M_MOST) && takeNumber(3, 1, E_MOST);
        }

        private boolean takeEnd() {
            if (!isByte(';')) return refuse(1);
            next();
            return kind == END || refuse(1);
        }

        boolean readCurve() {
            begin();
            return takeWord("curve") && takeNumber(0, -A_MOST, A_MOST) && takeNumber(1, -B_MOST, B_MOST)
                && takeBounds() && takeEnd();
        }
    }

    // ---- OUT ----

    private static final class Told {
        private final int[] bytes = new int[64];
        private int length;

        int length() {
            return length;
        }

        int byteAt(int i) {
            return i >= 0 && i < length ? Whole.pick(bytes, i) : NONE;
        }

        void clear() {
            length = 0;
        }

        void putByte(int sign) {
            if (length >= bytes.length) return;
            Whole.store(bytes, length, sign);
            length++;
        }

        void putText(String text) {
            for (int k = 0; k < text.length(); k++) putByte(text.charAt(k));
        }

        void putNumber(int number) {
            if (number < 0) putByte('-');
            long left = Math.abs((long) number);
            long power = 1;
            for (int k = 0; k < 12 && power * 10 <= left; k++) power *= 10;
            for (int k = 0; k < 12 && power > 0; k++) {
                putByte((int) ('0' + left / power % 10));
                power /= 10;
            }
        }
    }

    // ---- what undo() takes back ----

    private static final class History {
        private static final int MOST = 10;
        private static final int WIDTH = 4;

        private final int[] rows = new int[MOST * WIDTH];
        private int depth;

        int depth() {
            return depth;
        }

        void clear() {
            depth = 0;
        }

        void push(int a, int b, int most, int deepest) {
            if (depth >= MOST) {
                System.arraycopy(rows, WIDTH, rows, 0, (MOST - 1) * WIDTH);
                depth = MOST - 1;
            }
            Whole.store(rows, depth * WIDTH, a);
            Whole.store(rows, depth * WIDTH + 1, b);
            Whole.store(rows, depth * WIDTH + 2, most);
            Whole.store(rows, depth * WIDTH + 3, deepest);
            depth++;
        }

        void pop() {
            if (depth > 0) depth--;
        }

        /** Part k of what was taken off last. */
        int latest(int k) {
            return Whole.pick(rows, depth * WIDTH + k);
        }
    }

    // ---- the LIST ----

    /**
     * The m at which there can be POINTS: m and m m + a m e e + b e e e e have common primes of b alone,
     * so m is a square times a divisor of b.
     */
    private static final class Sieve {
        private final int[] marks = new int[2 * M_MOST + 1];
        private final int[] spots = new int[2 * M_MOST + 1];
        private int size;

        int size() {
            return size;
        }

        int spot(int k) {
            return Whole.pick(spots, k);
        }

        void gather(int b, int most) {
            Whole.store(marks, most, 1);
            int last = Math.min(most, Math.abs(b));
            for (int d = 1; d <= last; d++) {
                if (b % d == 0 && Whole.withoutSquares(d) == d) mark(d, most);
            }
            size = 0;
            for (int k = 0; k <= 2 * most && k < marks.length; k++) {
                if (marks[k] == 0) continue;
                marks[k] = 0;
                Whole.store(spots, size, k - most);
                size++;
            }
        }

        private void mark(int d, int most) {
            for (int root = 1; d * root * root <= most; root++) {
                Whole.store(marks, most - d * root * root, 1);
                Whole.store(marks, most + d * root * root, 1);
            }
        }
    }

    private static final class PointList {
        /** Above any n in the bounds, of a curve BESIDE, too. */
        private static final long N_MOST = 1L << 20;
        private static final long KEY_STEP = 2 * N_MOST + 1;

        private final Sieve sieve;
        private final int[] ms = new int[HELD_MOST];
        private final int[] ns = new int[HELD_MOST];
        private final int[] es = new int[HELD_MOST];
        /** One number for each POINT that grows as the LIST does: by e, then m, then n. */
        private final long[] keys = new long[HELD_MOST];
        private int held;
        private int a;
        private int b;
        private int most;
        private int deepest;

        PointList(Sieve sieve) {
            this.sieve = sieve;
        }

        int a() {
            return a;
        }

        int b() {
            return b;
        }

        int most() {
            return most;
        }

        int deepest() {
            return deepest;
        }

        int shown() {
            return Math.min(held, LIST_MOST);
        }

        int m(int i) {
            return i >= 0 && i < ms.length ? ms[i] : 0;
        }

        int n(int i) {
            return i >= 0 && i < ns.length ? ns[i] : 0;
        }

        int e(int i) {
            return i >= 0 && i < es.length ? es[i] : 0;
        }

        long coordinate(int i, int what) {
            switch (what) {
                case 0: return m(i);
                case 1: return n(i);
                case 2: return e(i);
                default: return NO_SUCH;
            }
        }

        int height(int i) {
            return Math.max(Math.abs(m(i)), e(i) * e(i));
        }

        void fill(int newA, int newB, int newMost, int newDeepest) {
            a = newA;
            b = newB;
            most = newMost;
            deepest = newDeepest;
            held = 0;
            sieve.gather(b, most);
            for (int e = 1; e <= deepest; e++) {
                for (int k = 0; k < sieve.size() && held < LIST_MOST; k++) addSpot(sieve.spot(k), e);
            }
        }

        private void addSpot(int m, int e) {
            long square = (long) e * e;
            long value = m * ((long) m * m + a * m * square + b * square * square);
            int n = (int) Whole.rootOf(value);
            if (n < 0 || Whole.gcd(m, e) != 1) return;
            if (n > 0) append(m, -n, e);
            append(m, n, e);
        }

        private void append(int m, int n, int e) {
            if (held < 0 || held >= keys.length) return;
            keys[held] = (e * KEY_STEP + m) * KEY_STEP + n;
            Whole.store(ms, held, m);
            Whole.store(ns, held, n);
            Whole.store(es, held, e);
            held++;
        }

        /** POINTS with one x stand side by side, the one with n below 0 first. */
        int partner(int i) {
            int n = n(i);
            if (n == 0) return i;
            return n < 0 ? i + 1 : i - 1;
        }

        int find(long m, long n, long e) {
            if (m < -most || m > most || e < 1 || e > deepest || n < -N_MOST || n > N_MOST) return FAR;
            long key = (e * KEY_STEP + m) * KEY_STEP + n;
            int low = 0;
            int high = held - 1;
            for (int step = 0; step < 10 && low <= high; step++) {
                int middle = (low + high) / 2;
                if (middle < 0 || middle >= keys.length) return FAR;
                if (keys[middle] == key) return middle;
                if (keys[middle] < key) low = middle + 1;
                else high = middle - 1;
            }
            return FAR;
        }
    }

    // ---- SUMS of POINTS ----

    /** One SUM as fractions: x is top by under, the slope is rise by run. */
    private static final class Adder {
        private boolean zero;
        private long top;
        private long under;
        private long rise;
        private long run;
        private long m;
        private long n;
        private long e;

        boolean isZero() {
            return zero;
        }

        void join(PointList list, int i, int j) {
            m = list.m(i);
            n = list.n(i);
            e = list.e(i);
            long otherM = list.m(j);
            long otherN = list.n(j);
            long otherE = list.e(j);
            boolean sameX = m == otherM && e == otherE;
            zero = sameX && n == -otherN;
            if (zero) return;
            if (sameX) followTangent(list.a(), list.b());
            else followChord(list.a(), otherM, otherN, otherE);
        }

        private void followTangent(long a, long b) {
            rise = 3 * m * m + 2 * a * m * e * e + b * e * e * e * e;
            run = 2 * n * e;
            top = rise * rise - 4 * n * n * (a * e * e + 2 * m);
            under = run * run;
        }

        private void followChord(long a, long otherM, long otherN, long otherE) {
            long square = e * e;
            long otherSquare = otherE * otherE;
            long gap = m * otherSquare - otherM * square;
            rise = n * otherSquare * otherE - otherN * square * e;
            run = e * otherE * gap;
            top = rise * rise - gap * gap * (a * square * otherSquare + m * otherSquare + otherM * square);
            under = run * run;
        }

        void reduce() {
            if (zero) return;
            long shared = Whole.gcd(top, under);
            top = Whole.quotient(top, shared);
            under = Whole.quotient(under, shared);
        }

        long top() {
            return top;
        }

        long under() {
            return under;
        }

        long height() {
            return Math.max(Math.abs(top), under);
        }

        int heightDigits() {
            return zero ? 0 : Whole.digits(height());
        }

        /** The place among those held; the least depth whose square clears the fraction is e of the SUM. */
        int placeIn(PointList list) {
            if (zero) return ZERO;
            if (under <= 0 || Math.abs(top) > list.most() * under) return FAR;
            for (int depth = 1; depth <= list.deepest(); depth++) {
                long square = (long) depth * depth;
                if (top * square % under != 0) continue;
                long sumM = top * square / under;
                long turnedRise = rise * (m * square - sumM * e * e) * e - n * run * square;
                return list.find(sumM, Whole.quotient(depth * turnedRise, run * e * e * e), depth);
            }
            return FAR;
        }
    }

    /** SUMS by numbers: ZERO, one of those held, FAR. */
    private static final class Sums {
        private final PointList list;
        private final Adder adder = new Adder();
        private final int[] orders = new int[LIST_MOST];
        private final int[] firstTimes = new int[2 * FACTOR_MOST + 1];
        private final int[] otherTimes = new int[2 * FACTOR_MOST + 1];
        private int lines;
        private int factorS;
        private int factorT;

        Sums(PointList list) {
            this.list = list;
        }

        void renew() {
            lines = NONE;
            Arrays.fill(orders, NONE);
        }

        Adder joined(int i, int j) {
            adder.join(list, i, j);
            adder.reduce();
            return adder;
        }

        int shown() {
            return list.shown();
        }

        int shownOnly(int i) {
            return i == ZERO || i < list.shown() ? i : FAR;
        }

        int negative(int i) {
            return i == ZERO || i == FAR ? i : list.partner(i);
        }

        int heldTotal(int i, int j) {
            if (i == FAR || j == FAR) return FAR;
            if (i == ZERO) return j;
            if (j == ZERO) return i;
            adder.join(list, i, j);
            return adder.placeIn(list);
        }

        int total(int i, int j) {
            return shownOnly(heldTotal(i, j));
        }

        int multiple(int i, int k) {
            int reached = ZERO;
            for (int step = 0; step < Math.abs(k); step++) {
                reached = total(reached, i);
                if (reached == FAR) return FAR;
            }
            return k < 0 ? shownOnly(negative(reached)) : reached;
        }

        int orderOf(int i) {
            if (i == ZERO) return 1;
            int known = Whole.pick(orders, i);
            if (known != NONE) return known;
            int order = 0;
            int reached = i;
            for (int k = 2; k <= ORDER_MOST && order == 0 && reached != FAR; k++) {
                reached = total(reached, i);
                if (reached == ZERO) order = k;
            }
            Whole.store(orders, i, order);
            return order;
        }

        int lineCount() {
            if (lines != NONE) return lines;
            int many = 0;
            for (int i = 0; i < list.shown(); i++) {
                for (int j = i + 1; j < list.shown(); j++) {
                    int third = negative(heldTotal(i, j));
                    if (third > j && third < list.shown()) many++;
                }
            }
            lines = many;
            return lines;
        }

        /** How often a POINT is doubled till it is the goal, NONE if it never is; no other way leads back from the goal. */
        int doublingsTo(int from, int goal) {
            int reached = from;
            for (int k = 0; k < LIST_MOST; k++) {
                if (reached == goal) return k;
                reached = total(reached, reached);
                if (reached == FAR || reached == ZERO) return NONE;
            }
            return NONE;
        }

        int factor(int what) {
            return what == 0 ? factorS : factorT;
        }

        /** Sets the factors by which both together are the goal; by the goal NONE, which are ROUND, not both 0. */
        boolean findFactors(int i, int j, int goal) {
            fillTimes(i, j);
            for (int size = goal == NONE ? 1 : 0; size <= 2 * FACTOR_MOST; size++) {
                for (int s = -FACTOR_MOST; s <= FACTOR_MOST; s++) {
                    int t = size - Math.abs(s);
                    if (t < 0 || t > FACTOR_MOST) continue;
                    if (reaches(s, -t, goal) || reaches(s, t, goal)) return true;
                }
            }
            return false;
        }

        private void fillTimes(int i, int j) {
            for (int k = -FACTOR_MOST; k <= FACTOR_MOST; k++) {
                Whole.store(firstTimes, k + FACTOR_MOST, multiple(i, k));
                Whole.store(otherTimes, k + FACTOR_MOST, multiple(j, k));
            }
        }

        private boolean reaches(int s, int t, int goal) {
            factorS = s;
            factorT = t;
            int reached = total(Whole.pick(firstTimes, s + FACTOR_MOST), Whole.pick(otherTimes, t + FACTOR_MOST));
            return goal == NONE ? reached != FAR && orderOf(reached) > 0 : reached == goal;
        }
    }

    // ---- MADE BY ----

    private static final class Closure {
        private final Sums sums;
        private final int[] members = new int[LIST_MOST + 1];
        private final int[] taken = new int[LIST_MOST];
        private final int[] makers = new int[LIST_MOST];
        private int size;
        private int makerCount;
        private boolean gathered;

        Closure(Sums sums) {
            this.sums = sums;
        }

        int size() {
            return size;
        }

        int makerCount() {
            return makerCount;
        }

        int maker(int k) {
            return Whole.pick(makers, k);
        }

        void forget() {
            gathered = false;
            makerCount = 0;
            Arrays.fill(taken, 0);
            Whole.store(members, 0, ZERO);
            size = 1;
        }

        void gather() {
            if (gathered) return;
            for (int i = 0; i < sums.shown(); i++) {
                if (Whole.pick(taken, i) == 0) addMaker(i);
            }
            gathered = true;
        }

        void addMaker(int maker) {
            int old = size;
            Whole.store(makers, makerCount, maker);
            makerCount++;
            take(maker);
            for (int h = 0; h < size && h < members.length; h++) {
                // Members from before have met all makers but the new one.
                for (int k = h < old ? makerCount - 1 : 0; k < makerCount; k++) {
                    int met = maker(k);
                    take(sums.heldTotal(members[h], met));
                    take(sums.heldTotal(members[h], sums.negative(met)));
                }
            }
        }

        private void take(int i) {
            if (i < 0 || i >= sums.shown() || Whole.pick(taken, i) != 0) return;
            Whole.store(taken, i, 1);
            Whole.store(members, size, i);
            size++;
        }
    }

    // ---- BY A PRIME ----

    /** A POINT's code is x times 128 and y, NONE for ZERO: by size they stand as bestBy() wants them. */
    private static final class PrimeGroup {
        private static final int POINTS_MOST = 200;

        private final int[] roots = new int[BY_MOST];
        private final int[] inverses = new int[BY_MOST];
        private final int[] orders = new int[2 * BY_MOST];
        private final int[] seen = new int[2 * BY_MOST + 1];
        private final int[] chain = new int[POINTS_MOST];
        private final int[] manyRow = new int[BY_MOST + 1];
        private int curveA;
        private int curveB;
        private int a;
        private int b;
        private int p;
        private int bestOrder;
        private int bestCode;

        void renew(int newA, int newB) {
            curveA = newA;
            curveB = newB;
            p = 0;
            Arrays.fill(manyRow, 0);
        }

        void take(int prime) {
            if (p == prime) return;
            p = prime;
            a = residue(curveA);
            b = residue(curveB);
            bestOrder = 0;
            Arrays.fill(roots, NONE);
            for (int y = p / 2; y >= 0; y--) Whole.store(roots, residue(y * y), y);
            Whole.store(inverses, 1, 1);
            for (int k = 2; k < p; k++) {
                Whole.store(inverses, k, residue((p - p / k) * Whole.pick(inverses, p % k)));
            }
        }

        private int residue(long value) {
            return Whole.residue(value, p);
        }

        private int rootAt(int x) {
            return Whole.pick(roots, residue((long) x * residue((long) x * (x + a) + b)));
        }

        int manyBy(int prime) {
            int known = Whole.pick(manyRow, prime);
            if (known != 0) return known;
            take(prime);
            int many = 1;
            for (int x = 0; x < p; x++) {
                int y = rootAt(x);
                if (y >= 0) many += y == 0 ? 1 : 2;
            }
            Whole.store(manyRow, prime, many);
            return many;
        }

        int codeOf(int m, int n, int e) {
            int below = residue(e);
            if (below == 0) return NONE;
            long inverse = Whole.pick(inverses, below);
            int x = residue(m * inverse * inverse);
            int y = residue(n * inverse * inverse * inverse);
            return x * 128 + y;
        }

        private int add(int one, int other) {
            if (one < 0) return other;
            if (other < 0) return one;
            long x = one / 128;
            long y = one % 128;
            long otherX = other / 128;
            long otherY = other % 128;
            long slope;
            if (x == otherX) {
                if (residue(y + otherY) == 0) return NONE;
                slope = (3 * x * x + 2 * a * x + b) * Whole.pick(inverses, residue(2 * y));
            } else {
                slope = (y - otherY) * Whole.pick(inverses, residue(x - otherX));
            }
            slope = residue(slope);
            int sumX = residue(slope * slope - a - x - otherX);
            return sumX * 128 + residue(slope * (x - sumX) - y);
        }

        int orderOfCode(int code) {
            int reached = code;
            int order = 1;
            for (int k = 0; k < POINTS_MOST && reached >= 0; k++) {
                reached = add(reached, code);
                order++;
            }
            return order;
        }

        int logOf(int code, int goal) {
            int reached = NONE;
            for (int k = 0; k < POINTS_MOST; k++) {
                if (reached == goal) return k;
                reached = add(reached, code);
                if (reached < 0) return NONE;
            }
            return NONE;
        }

        private int slotOf(int code) {
            int x = code / 128;
            int y = code % 128;
            return 2 * x + (2 * y > p ? 1 : 0);
        }

        void clearSeen() {
            Arrays.fill(seen, 0);
        }

        boolean seesNew(int code) {
            int slot = code < 0 ? 2 * BY_MOST : slotOf(code);
            if (Whole.pick(seen, slot) != 0) return false;
            Whole.store(seen, slot, 1);
            return true;
        }

        int greatestOrder() {
            if (bestOrder == 0) findBest();
            return bestOrder;
        }

        int bestPart(int what) {
            if (bestOrder == 0) findBest();
            if (bestCode < 0) return NONE;
            return what == 0 ? bestCode / 128 : bestCode % 128;
        }

        private void findBest() {
            Arrays.fill(orders, 0);
            bestOrder = 1;
            bestCode = NONE;
            for (int x = 0; x < p; x++) {
                int y = rootAt(x);
                if (y < 0) continue;
                weigh(x * 128 + y);
                if (y > 0) weigh(x * 128 + p - y);
            }
        }

        private void weigh(int code) {
            if (Whole.pick(orders, slotOf(code)) == 0) fillOrders(code);
            int order = Whole.pick(orders, slotOf(code));
            if (order > bestOrder) {
                bestOrder = order;
                bestCode = code;
            }
        }

        /** One walk around tells the orders of all that it meets. */
        private void fillOrders(int code) {
            int length = 0;
            int reached = code;
            for (int k = 0; k < POINTS_MOST && reached >= 0; k++) {
                Whole.store(chain, length, reached);
                length++;
                reached = add(reached, code);
            }
            int order = length + 1;
            for (int k = 0; k < length; k++) {
                int divided = (int) Whole.quotient(order, Whole.gcd(order, k + 1));
                Whole.store(orders, slotOf(Whole.pick(chain, k)), divided);
            }
        }
    }

    // ---- CLASSES of one side ----

    /** A CLASS has a mask too, a bit for each prime in its d and one for below 0: products are told by ^ of masks. */
    private static final class ClassTable {
        private static final int DIVISORS_MOST = 32;
        private static final int CLASSES_MOST = 64;
        private static final int SIGN_MASK = 32;
        private static final int FOUND_MOST = 20;
        private static final int[] MODULI = {16, 9, 25, 49, 11, 13};
        private static final int[] MODULI_PRIMES = {2, 3, 5, 7, 11, 13};
        /** Bit k of each: k is like a square by that modulus. */
        private static final long[] MODULI_SQUARES = {0x213L, 0x93L, 0x1294a53L, 0x58b162c58b17L, 0x23bL, 0x161bL};

        private final int[] divisors = new int[DIVISORS_MOST];
        private final int[] masks = new int[DIVISORS_MOST];
        private final int[] possible = new int[CLASSES_MOST];
        private final int[] firstMs = new int[CLASSES_MOST];
        private final int[] firstEs = new int[CLASSES_MOST];
        private final int[] madeMasks = new int[CLASSES_MOST];
        private final int[] tallies = new int[4];
        private int divisorCount;
        private int a;
        private int b;

        int size() {
            return 2 * divisorCount;
        }

        int divisor(int k) {
            int d = Whole.pick(divisors, k / 2);
            return k % 2 == 0 ? d : -d;
        }

        private int mask(int k) {
            return Whole.pick(masks, k / 2) + (k % 2 == 0 ? 0 : SIGN_MASK);
        }

        boolean isFound(int k) {
            return Whole.pick(firstMs, k) >= 0;
        }

        boolean isPossible(int k) {
            return Whole.pick(possible, k) != 0;
        }

        boolean isMade(int k) {
            return Whole.pick(madeMasks, mask(k)) != 0;
        }

        int firstM(int k) {
            return Whole.pick(firstMs, k);
        }

        int firstE(int k) {
            return Whole.pick(firstEs, k);
        }

        /** How many there are (0), FOUND (1), POSSIBLE (2), MADE ones (3). */
        int tally(int what) {
            return Whole.pick(tallies, what);
        }

        int halvings(int what) {
            return Math.max(0, Whole.digits(tally(what)) - 1);
        }

        void prepare(int newA, int newB) {
            // b is never 0, so a new table is no other one's.
            if (newA == a && newB == b) return;
            a = newA;
            b = newB;
            gatherDivisors();
            Arrays.fill(tallies, 0);
            Arrays.fill(madeMasks, 0);
            Whole.store(madeMasks, 0, 1);
            for (int k = 0; k < size(); k++) judge(k);
            int made = 0;
            for (int mark : madeMasks) made += mark;
            Whole.store(tallies, 0, size());
            Whole.store(tallies, 3, made);
        }

        private void gatherDivisors() {
            Whole.store(divisors, 0, 1);
            Whole.store(masks, 0, 0);
            divisorCount = 1;
            int left = Math.abs(b);
            int bit = 1;
            for (int f = 2; f * f <= left; f++) {
                if (left % f != 0) continue;
                for (int k = 0; k < 32 && left % f == 0; k++) left /= f;
                addPrime(f, bit);
                bit *= 2;
            }
            if (left > 1) addPrime(left, bit);
        }

        private void addPrime(int prime, int bit) {
            int old = divisorCount;
            if (2 * old > DIVISORS_MOST) return;
            for (int k = 0; k < old; k++) {
                Whole.store(divisors, old + k, Whole.pick(divisors, k) * prime);
                Whole.store(masks, old + k, Whole.pick(masks, k) + bit);
            }
            divisorCount = 2 * old;
            sortDivisors();
        }

        private void sortDivisors() {
            for (int i = 1; i < divisorCount; i++) {
                int divisor = Whole.pick(divisors, i);
                int mask = Whole.pick(masks, i);
                int k = i;
                while (k > 0 && Whole.pick(divisors, k - 1) > divisor) {
                    Whole.store(divisors, k, Whole.pick(divisors, k - 1));
                    Whole.store(masks, k, Whole.pick(masks, k - 1));
                    k--;
                }
                Whole.store(divisors, k, divisor);
                Whole.store(masks, k, mask);
            }
        }

        /** What is FOUND is a solution by each number, too: it need not be sought where there is none. */
        private void judge(int k) {
            int d = divisor(k);
            boolean may = mayBe(d);
            Whole.store(possible, k, may ? 1 : 0);
            Whole.store(firstMs, k, NONE);
            if (!may) return;
            Whole.store(tallies, 2, tally(2) + 1);
            search(k, d);
            if (!isFound(k)) return;
            Whole.store(tallies, 1, tally(1) + 1);
            makeProducts(mask(k));
        }

        private void makeProducts(int mask) {
            if (Whole.pick(madeMasks, mask) != 0) return;
            for (int other = 0; other < CLASSES_MOST; other++) {
                if (Whole.pick(madeMasks, other) != 0) Whole.store(madeMasks, other ^ mask, 1);
            }
        }

        private void search(int k, int d) {
            int other = (int) Whole.quotient(b, d);
            for (int e = 0; e <= FOUND_MOST; e++) {
                int square = e * e;
                for (int m = 0; m <= FOUND_MOST; m++) {
                    long value = valueAt(d, other, m * m, square);
                    if (value < 0 || Whole.rootOf(value) < 0 || Whole.gcd(m, e) != 1) continue;
                    Whole.store(firstMs, k, m);
                    Whole.store(firstEs, k, e);
                    return;
                }
            }
        }

        private long valueAt(long d, long other, long squareM, long squareE) {
            return d * squareM * squareM + a * squareM * squareE + other * squareE * squareE;
        }

        long firstRoot(int k) {
            int d = divisor(k);
            long other = Whole.quotient(b, d);
            long m = firstM(k);
            long e = firstE(k);
            return Whole.rootOf(valueAt(d, other, m * m, e * e));
        }

        private boolean mayBe(int d) {
            int other = (int) Whole.quotient(b, d);
            if (d < 0 && other < 0 && (a <= 0 || a * a - 4 * b <= 0)) return false;
            for (int k = 0; k < MODULI.length; k++) {
                if (!mayBeBy(d, other, k)) return false;
            }
            return true;
        }

        /**
         * To multiply M and e by a number without q's prime multiplies the value by a square:
         * so M 1 with any e, and e 1 with multiples of the prime for M, tell all.
         */
        private boolean mayBeBy(int d, int other, int k) {
            if (k >= MODULI.length || k >= MODULI_PRIMES.length || k >= MODULI_SQUARES.length) return false;
            int q = MODULI[k];
            long squares = MODULI_SQUARES[k];
            for (int e = 0; e < q; e++) {
                int rest = Whole.residue(valueAt(d, other, 1, (long) e * e), q);
                if ((squares >>> rest & 1) != 0) return true;
            }
            for (int m = 0; m < q; m += MODULI_PRIMES[k]) {
                int rest = Whole.residue(valueAt(d, other, (long) m * m, 1), q);
                if ((squares >>> rest & 1) != 0) return true;
            }
            return false;
        }
    }
}
