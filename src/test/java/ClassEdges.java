/** The boundary sentences of the CLASSES and the RANK that comes of them. */
final class ClassEdges {
    private static final int[] NO_POINTS = {-1, 7, 999, 1001, Edge.LEAST, Edge.MOST};
    private static final int[] NO_WHATS = {-1, 2, Edge.LEAST, Edge.MOST};

    private ClassEdges() {
    }

    static void run() {
        divisors();
        found();
        firstFound();
        possibleByNumbers();
        possibleBySigns();
        possibleAll();
        changed();
        made();
        classes();
        classOf();
        ranks();
        classAt();
        shows();
        turnsRank();
    }

    private static void dues(String curve, int side, int... want) {
        CurvePoints x = Texts.on("curve " + curve + " within 1 1;");
        Edge.due(curve + " side " + side + ", how many", x.classes(side, 0), want.length);
        for (int k = 0; k < want.length; k++) Edge.due(curve + " side " + side + ", class " + k, x.classOf(side, k, 0), want[k]);
        Edge.due(curve + " side " + side + ", none behind", x.classOf(side, want.length, 0), Edge.NO_SUCH);
    }

    private static void divisors() {
        Edge.says(Edge.TERMS, "divisors d of b without a square above 1 in them, of either sign, by size, then the one above 0 first");
        dues("3 1", 0, 1, -1);
        dues("3 -1", 0, 1, -1);
        dues("0 2", 0, 1, -1, 2, -2);
        dues("1 4", 0, 1, -1, 2, -2);
        dues("0 8", 0, 1, -1, 2, -2);
        dues("0 9", 0, 1, -1, 3, -3);
        dues("0 -36", 0, 1, -1, 2, -2, 3, -3, 6, -6);
        dues("0 -200", 0, 1, -1, 2, -2, 5, -5, 10, -10);
        dues("0 199", 0, 1, -1, 199, -199);
        dues("0 180", 0, 1, -1, 2, -2, 3, -3, 5, -5, 6, -6, 10, -10, 15, -15, 30, -30);
        dues("1 154", 0, 1, -1, 2, -2, 7, -7, 11, -11, 14, -14, 22, -22, 77, -77, 154, -154);
        Edge.says(Edge.TERMS, "Side 1: the same of the curve BESIDE: -2 a for a, a a - 4 b for b.");
        dues("3 2", 1, 1, -1);
        dues("1 1", 1, 1, -1, 3, -3);
        dues("60 -200", 1, 1, -1, 2, -2, 5, -5, 10, -10, 11, -11, 22, -22, 55, -55, 110, -110);
        // a a - 4 b is 3045, 3 5 7 29: the most divisors that are met.
        dues("-59 109", 1, 1, -1, 3, -3, 5, -5, 7, -7, 15, -15, 21, -21, 29, -29, 35, -35, 87, -87, 105, -105, 145, -145, 203, -203,
            435, -435, 609, -609, 1015, -1015, 3045, -3045);
    }

    private static void first(String curve, int side, int k, long d, long isFound, long m, long e) {
        CurvePoints x = Texts.on("curve " + curve + " within 1 1;");
        String what = curve + " side " + side + " class " + k;
        long none = Edge.NO_SUCH;
        Edge.due(what + ", d", x.classOf(side, k, 0), d);
        Edge.due(what + ", FOUND", x.classOf(side, k, 1), isFound);
        Edge.due(what + ", M", x.classOf(side, k, 4), isFound == 1 ? m : none);
        Edge.due(what + ", e", x.classOf(side, k, 5), isFound == 1 ? e : none);
    }

    private static void found() {
        Edge.says(Edge.TERMS, "A CLASS is FOUND, if by some M 0 .. 20, e 0 .. 20, without a common divisor (1 and 0, 0 and 1 are such)");
        first("0 -2", 0, 0, 1, 1, 1, 0);
        first("0 -2", 0, 3, -2, 1, 0, 1);
        first("-60 -128", 0, 2, 2, 1, 20, 1);
        first("-58 -2", 1, 4, 3, 1, 20, 13);
        first("-20 -93", 0, 5, -31, 1, 1, 20);
        first("-58 -191", 1, 12, 129, 1, 1, 20);
        first("-54 -192", 0, 3, -2, 1, 20, 19);
        first("-41 118", 1, 9, -39, 1, 19, 20);
        // By 21 and 1, 1 and 21, 21 and 22, 20 and 21 it would be, and by none before.
        first("-52 -10", 0, 2, 2, 0, 21, 1);
        first("-52 -10", 0, 5, -5, 0, 1, 21);
        first("11 110", 0, 4, 5, 0, 21, 22);
        first("-58 89", 1, 5, -47, 0, 20, 21);
        first("-50 71", 1, 4, 277, 0, 1, 21);
        first("-46 128", 1, 2, 2, 0, 21, 1);
        Edge.says(Edge.TERMS, "d M M M M + a M M e e + (b by d) e e e e is a square of a whole number (0, too)");
        // -3 - 60 and 63 are 0.
        first("-60 -189", 0, 3, -3, 1, 1, 1);
        first("-60 1", 1, 9, -58, 1, 1, 1);
    }

    private static boolean isSquare(long value) {
        if (value < 0) return false;
        long root = (long) Math.sqrt((double) value);
        return root * root == value;
    }

    private static int gcd(int x, int y) {
        return y == 0 ? x : gcd(y, x % y);
    }

    /** M and e by which a CLASS is FOUND first, M times 100 and e; -1: by none. */
    private static int firstBy(long d, long a, long other) {
        for (int e = 0; e <= 20; e++) {
            for (int m = 0; m <= 20; m++) {
                long mm = (long) m * m;
                long ee = (long) e * e;
                if (gcd(m, e) == 1 && isSquare(d * mm * mm + a * mm * ee + other * ee * ee)) return m * 100 + e;
            }
        }
        return -1;
    }

    private static void firstFound() {
        Edge.says(21, "Of the k-th CLASS, what 0: d, 1: 1 if it is FOUND, else 0, 2: POSSIBLE, 3: MADE, 4, 5: the first M, e by which it is FOUND (by e, then M)");
        String[] curves = {"0 -2", "-60 -128", "-58 -191", "-20 -93", "17 -105", "-59 109", "35 168", "0 -150", "60 -200", "-60 -200", "22 -135"};
        for (String curve : curves) {
            CurvePoints x = Texts.on("curve " + curve + " within 1 1;");
            for (int side = 0; side < 2; side++) {
                long a = side == 0 ? x.count(0) : -2 * x.count(0);
                long b = side == 0 ? x.count(1) : x.count(0) * x.count(0) - 4 * x.count(1);
                for (int k = 0; k < x.classes(side, 0); k++) {
                    long d = x.classOf(side, k, 0);
                    int want = firstBy(d, a, b / d);
                    String what = curve + " side " + side + " class " + k;
                    Edge.due(what + ", FOUND", x.classOf(side, k, 1), want < 0 ? 0 : 1);
                    Edge.due(what + ", M", x.classOf(side, k, 4), want < 0 ? Edge.NO_SUCH : want / 100);
                    Edge.due(what + ", e", x.classOf(side, k, 5), want < 0 ? Edge.NO_SUCH : want % 100);
                }
            }
        }
    }

    private static boolean isLikeSquare(long value, int q) {
        for (long k = 0; k < q; k++) if (Math.floorMod(k * k - value, q) == 0) return true;
        return false;
    }

    private static boolean isPossibleBy(long d, long a, long other, int q, int prime) {
        for (long m = 0; m < q; m++) {
            for (long e = 0; e < q; e++) {
                boolean both = m % prime == 0 && e % prime == 0;
                if (!both && isLikeSquare(d * m * m * m * m + a * m * m * e * e + other * e * e * e * e, q)) return true;
            }
        }
        return false;
    }

    private static boolean hasSign(long d, long a, long b) {
        return d > 0 || b / d > 0 || a > 0 && a * a - 4 * b > 0;
    }

    private static void possibleByNumbers() {
        Edge.says(Edge.TERMS, "for each q of 16, 9, 25, 49, 11, 13 there are M, e 0 .. q - 1, not both multiples of q's prime, by which that is like a square modulo q");
        int[] numbers = {16, 9, 25, 49, 11, 13};
        int[] primes = {2, 3, 5, 7, 11, 13};
        // Each of these is refused by one q alone.
        int[][] alone = {
            {16, -60, -200, 0, 1}, {16, -60, -200, 1, 2}, {9, -60, -198, 0, 6}, {9, -60, -195, 1, 6}, {25, -60, -195, 0, 6}, {25, -60, -200, 1, 4},
            {49, -60, -196, 0, 4}, {49, -60, -154, 1, 4}, {11, -57, -197, 0, 1}, {11, -57, -187, 1, 2}, {13, -60, -114, 0, 3}, {13, -56, -182, 1, 18}
        };
        for (int[] row : alone) {
            CurvePoints x = Texts.on("curve " + row[1] + " " + row[2] + " within 1 1;");
            long a = row[3] == 0 ? row[1] : -2 * row[1];
            long b = row[3] == 0 ? row[2] : row[1] * row[1] - 4 * row[2];
            long d = x.classOf(row[3], row[4], 0);
            for (int k = 0; k < 6; k++) {
                boolean may = isPossibleBy(d, a, b / d, numbers[k], primes[k]);
                Edge.due(row[1] + " " + row[2] + " by " + numbers[k], may ? 1 : 0, numbers[k] == row[0] ? 0 : 1);
            }
            Edge.due(row[1] + " " + row[2] + ", by its sign", hasSign(d, a, b) ? 1 : 0, 1);
            Edge.due(row[1] + " " + row[2] + ", POSSIBLE", x.classOf(row[3], row[4], 2), 0);
        }
    }

    private static void possibleBySigns() {
        Edge.says(Edge.TERMS, "(1) d or b by d is above 0, or a and a a - 4 b are");
        // All q let these pass; a below 0, a 0, a a - 4 b below 0, d and b by d below 0.
        int[][] refused = {{-60, 2, 0, 1}, {0, 11, 0, 1}, {1, 6, 0, 3}, {1, -199, 1, 1}, {0, -200, 1, 1}, {-60, -200, 1, 1}};
        for (int[] row : refused) {
            CurvePoints x = Texts.on("curve " + row[0] + " " + row[1] + " within 1 1;");
            Edge.due(row[0] + " " + row[1] + " side " + row[2] + ", POSSIBLE", x.classOf(row[2], row[3], 2), 0);
        }
        int[][] taken = {{8, 14, 0, 1}, {3, 1, 0, 1}, {-60, 1, 1, 1}, {-60, 1, 1, 9}};
        for (int[] row : taken) {
            CurvePoints x = Texts.on("curve " + row[0] + " " + row[1] + " within 1 1;");
            Edge.due(row[0] + " " + row[1] + " side " + row[2] + ", d below 0", x.classOf(row[2], row[3], 0) < 0 ? 1 : 0, 1);
            Edge.due(row[0] + " " + row[1] + " side " + row[2] + ", POSSIBLE", x.classOf(row[2], row[3], 2), 1);
        }
    }

    /** Of every fifth CURVE all CLASSES: what is told of each q depends on d, a, b by d modulo q alone, and is kept. */
    private static void possibleAll() {
        Edge.says(Edge.TERMS, "POSSIBLE, if (1) d or b by d is above 0, or a and a a - 4 b are, and (2) for each q");
        int[] numbers = {16, 9, 25, 49, 11, 13};
        int[] primes = {2, 3, 5, 7, 11, 13};
        byte[][] kept = new byte[6][];
        for (int q = 0; q < 6; q++) kept[q] = new byte[numbers[q] * numbers[q] * numbers[q]];
        for (int turn = 0; turn < 121 * 401; turn += 5) {
            int curveA = turn / 401 - 60;
            int curveB = turn % 401 - 200;
            if (curveB == 0 || curveA * curveA == 4 * curveB) continue;
            CurvePoints x = Texts.on("curve " + curveA + " " + curveB + " within 1 1;");
            for (int side = 0; side < 2; side++) {
                long a = side == 0 ? curveA : -2 * curveA;
                long b = side == 0 ? curveB : curveA * curveA - 4 * curveB;
                for (int k = 0; k < x.classes(side, 0); k++) {
                    long d = x.classOf(side, k, 0);
                    boolean may = hasSign(d, a, b);
                    for (int q = 0; q < 6 && may; q++) may = isPossibleKept(kept[q], d, a, b / d, numbers[q], primes[q]);
                    Edge.due(curveA + " " + curveB + " side " + side + " class " + k + ", POSSIBLE", x.classOf(side, k, 2), may ? 1 : 0);
                }
            }
        }
        // a a - 4 b is 1, -3, -4: just above 0, just below it.
        for (int[] row : new int[][] {{3, 2, 1}, {3, 3, 0}, {1, 1, 0}, {4, 5, 0}, {2, 2, 0}}) {
            CurvePoints x = Texts.on("curve " + row[0] + " " + row[1] + " within 1 1;");
            Edge.due(row[0] + " " + row[1] + ", d -1 is POSSIBLE", x.classOf(0, 1, 2), row[2]);
        }
    }

    private static boolean isPossibleKept(byte[] kept, long d, long a, long other, int q, int prime) {
        int place = (int) ((Math.floorMod(d, (long) q) * q + Math.floorMod(a, (long) q)) * q + Math.floorMod(other, (long) q));
        if (kept[place] == 0) kept[place] = (byte) (isPossibleBy(d, a, other, q, prime) ? 1 : 2);
        return kept[place] == 1;
    }

    /** What was told of one CURVE is not told of the next one, though a or b is the same. */
    private static void changed() {
        Edge.says(Edge.TERMS, "III. CLASSES of side 0");
        String[] curves = {"0 -2", "1 -2", "1 -6", "1 -105", "17 -105", "-59 109", "17 -105", "17 41", "0 -2"};
        CurvePoints x = new CurvePoints();
        for (String curve : curves) {
            Texts.curve(x, "curve " + curve + " within 1 1;");
            CurvePoints fresh = Texts.on("curve " + curve + " within 1 1;");
            for (int what = 0; what < 8; what++) {
                Edge.due(curve + " again, " + what, x.classes(what / 4, what % 4), fresh.classes(what / 4, what % 4));
            }
            Edge.due(curve + " again, last class", x.classOf(1, 3, 2), fresh.classOf(1, 3, 2));
            Edge.due(curve + " again, turned", x.turnsRank(1), fresh.turnsRank(1));
            Edge.due(curve + " again, none left behind", x.classOf(0, fresh.classes(0, 0), 0), Edge.NO_SUCH);
        }
        CurvePoints y = Texts.on("curve 0 -2;");
        int ahead = y.turnsRank(1);
        y.twists(3);
        Edge.due("turned by 3", y.turnsRank(1), Texts.on("curve 0 -18;").turnsRank(1));
        Edge.due("RANK, turned by 3", y.rank(0), Texts.on("curve 0 -18;").rank(0));
        y.undo();
        Edge.due("taken back", y.turnsRank(1), ahead);
        y.goesBeside();
        Edge.due("BESIDE", y.classes(0, 1), Texts.on("curve 0 -2;").classes(1, 1));
    }

    private static void made() {
        Edge.says(Edge.TERMS, "MADE: the CLASS of 1, FOUND ones, and what comes by products of these (squares taken out)");
        int[][] rows = {{-27, -52, 0}, {-28, -141, 0}, {-28, -191, 1}, {-28, 8, 1}};
        for (int[] row : rows) {
            CurvePoints x = Texts.on("curve " + row[0] + " " + row[1] + " within 1 1;");
            int side = row[2];
            long[] ds = new long[x.classes(side, 0)];
            boolean[] found = new boolean[ds.length];
            for (int k = 0; k < ds.length; k++) {
                ds[k] = x.classOf(side, k, 0);
                found[k] = k == 0 || x.classOf(side, k, 1) == 1;
            }
            int many = 0;
            for (int k = 0; k < ds.length; k++) {
                boolean reached = isReached(ds, found, ds[k]);
                many += reached ? 1 : 0;
                Edge.due(row[0] + " " + row[1] + " class " + k + ", MADE", x.classOf(side, k, 3), reached ? 1 : 0);
            }
            Edge.due(row[0] + " " + row[1] + ", MADE ones", x.classes(side, 3), many);
            Edge.due(row[0] + " " + row[1] + ", more than FOUND ones", many > x.classes(side, 1) ? 1 : 0, 1);
        }
    }

    /** A CLASS is a product of up to three FOUND ones: here none needs more. */
    private static boolean isReached(long[] ds, boolean[] found, long goal) {
        for (int i = 0; i < ds.length; i++) {
            for (int j = 0; j < ds.length; j++) {
                for (int h = 0; h < ds.length; h++) {
                    if (found[i] && found[j] && found[h] && isSquare(ds[i] * ds[j] * ds[h] * goal)) return true;
                }
            }
        }
        return false;
    }

    private static void classes() {
        Edge.says(20, "CLASSES of a side (0, 1), what 0: how many, 1: FOUND ones, 2: POSSIBLE ones, 3: MADE ones. -2.");
        int[][] want = {{4, 4, 4, 4}, {4, 2, 2, 2}};
        for (int side = 0; side < 2; side++) {
            for (int what = 0; what < 4; what++) {
                int one = side;
                int other = what;
                Edge.stays("classes " + side + " " + what, x -> x.classes(one, other), want[side][what]);
            }
        }
        for (int side : NO_WHATS) Edge.stays("side " + side, x -> x.classes(side, 0), -2);
        for (int what : new int[] {-1, 4, Edge.LEAST, Edge.MOST}) {
            Edge.stays("what " + what, x -> x.classes(0, what), -2);
            Edge.stays("side 1, what " + what, x -> x.classes(1, what), -2);
        }
        Edge.due("no curve", new CurvePoints().classes(0, 0), -2);
    }

    private static void classOf() {
        Edge.says(21, "NO_SUCH (not FOUND, too).");
        long none = Edge.NO_SUCH;
        long[][] rows = {{0, 0, 0, 1}, {0, 3, 0, -2}, {1, 0, 0, 1}, {1, 3, 0, -2}, {1, 1, 1, 0}, {1, 1, 2, 0}, {1, 1, 3, 0}, {1, 1, 4, none}, {1, 1, 5, none}, {1, 3, 5, none}, {0, 3, 5, 1}};
        for (long[] row : rows) {
            Edge.stays("classOf " + row[0] + " " + row[1] + " " + row[2], x -> x.classOf((int) row[0], (int) row[1], (int) row[2]), row[3]);
        }
        for (int what = 0; what <= 5; what++) {
            int asked = what;
            for (int side = 0; side < 2; side++) {
                int one = side;
                for (int k : new int[] {-1, 4, 5, 63, 64, Edge.LEAST, Edge.MOST}) {
                    Edge.stays("side " + side + " class " + k + " what " + what, x -> x.classOf(one, k, asked), none);
                }
            }
            for (int side : NO_WHATS) Edge.stays("side " + side + " what " + what, x -> x.classOf(side, 0, asked), none);
            Edge.due("no curve", new CurvePoints().classOf(0, 0, what), none);
        }
        for (int what : new int[] {-1, 6, Edge.LEAST, Edge.MOST}) Edge.stays("what " + what, x -> x.classOf(0, 0, what), none);
    }

    private static int halved(int many) {
        int often = 0;
        for (int left = many; left > 1; left /= 2) often++;
        return often;
    }

    private static void ranks() {
        Edge.says(Edge.TERMS, "RANK at least: how often how many MADE ones of side 0 there are can be halved (cut) till it is 1, the same of side 1, both together less 2; at most: likewise by POSSIBLE ones; 0, if less comes, both.");
        // POSSIBLE ones: 6 and 2, 6 and 1, 3 and 8, 3 and 4.
        String[] curves = {"0 -150", "0 -100", "0 104", "0 -88", "17 -105", "-59 109", "60 -105", "-60 -161", "0 -2", "3 1", "-60 -200"};
        for (String curve : curves) {
            CurvePoints x = Texts.on("curve " + curve + " within 1 1;");
            Edge.due(curve + " at least", x.rank(0), Math.max(0, halved(x.classes(0, 3)) + halved(x.classes(1, 3)) - 2));
            Edge.due(curve + " at most", x.rank(1), Math.max(0, halved(x.classes(0, 2)) + halved(x.classes(1, 2)) - 2));
        }
        int[][] want = {{1, 1}, {0, 0}, {1, 2}, {0, 1}, {3, 3}, {0, 4}, {0, 0}, {3, 3}, {1, 1}};
        for (int k = 0; k < want.length; k++) {
            CurvePoints x = Texts.on("curve " + curves[k] + " within 1 1;");
            for (int what = 0; what < 2; what++) Edge.due(curves[k] + " what " + what, x.rank(what), want[k][what]);
        }
        int least = 0;
        for (int a = -60; a <= 60; a++) {
            for (int b = -200; b <= 200; b += 7) {
                if (b == 0 || a * a == 4 * b) continue;
                CurvePoints x = Texts.on("curve " + a + " " + b + " within 1 1;");
                least = Math.min(least, Math.min(x.rank(0), x.rank(1) - x.rank(0)));
            }
        }
        Edge.due("none below 0, at most not below at least", least, 0);
        Edge.says(22, "RANK at least (what 0), at most (1). -2.");
        Edge.stays("at least", x -> x.rank(0), 1);
        Edge.stays("at most", x -> x.rank(1), 1);
        for (int what : NO_WHATS) Edge.stays("what " + what, x -> x.rank(what), -2);
        Edge.due("no curve", new CurvePoints().rank(0), -2);
    }

    private static void classAt() {
        Edge.says(23, "The d of the CLASS of side 0 in which x of a POINT of the LIST lies (x by d is a square of a fraction; of x 0 that of b)");
        int[] want = {-1, -1, -2, 2, 2, 1, 1};
        for (int i = 0; i < 7; i++) {
            int asked = i;
            Edge.stays("classAt " + i, x -> x.classAt(asked), want[i]);
        }
        String[] curves = {"0 -36", "0 -200", "0 200", "1 1", "3 -1", "0 180", "0 -12", "1 199", "0 8"};
        int[] ofB = {-1, -2, 2, 1, -1, 5, -3, 199, 2};
        for (int k = 0; k < curves.length; k++) {
            CurvePoints x = Texts.on("curve " + curves[k] + ";");
            Edge.due("(0, 0) of " + curves[k], x.classAt(x.at(0, 1, 0)), ofB[k]);
        }
        CurvePoints wide = Texts.on("curve -45 -190 within 1000 6;");
        long[] there = {-1, -1, -190, 190, 190, 10, 10, 19, 19};
        for (int i = 0; i < there.length; i++) Edge.due("-45 -190, " + i, wide.classAt(i), there[i]);
        Edge.says(23, "NO_SUCH: there is none such, it is ZERO.");
        Edge.stays("zero", x -> x.classAt(Edge.ZERO), Edge.NO_SUCH);
        for (int i : NO_POINTS) Edge.stays("classAt " + i, x -> x.classAt(i), Edge.NO_SUCH);
        Edge.due("no curve", new CurvePoints().classAt(0), Edge.NO_SUCH);
    }

    private static void shows() {
        Edge.says(42, "The POINT that a FOUND CLASS of side 0 tells by its first M, e, the square's root being N, 0 or above: x d M M by e e, y d M N by e e e; ZERO by e 0.");
        int[] want = {Edge.ZERO, 0, 4, 2};
        for (int k = 0; k < 4; k++) {
            int asked = k;
            Edge.stays("shows " + k, x -> x.shows(asked), want[k]);
        }
        CurvePoints flat = Texts.on("curve -60 -189;");
        Edge.due("N 0: (-3, 0)", flat.shows(3), flat.at(-3, 1, 0));
        Edge.due("M 0: (0, 0)", flat.shows(7), flat.at(0, 1, 0));
        CurvePoints deep = Texts.on("curve -60 -105;");
        Edge.due("e 3: -5 by 9", deep.shows(5), deep.at(-5, 3, -1));
        Edge.due("d below 0 and N above it: n is below 0", deep.point(deep.shows(5), 1) < 0 ? 1 : 0, 1);
        Edge.says(42, "FAR; NONE: the CLASS is not FOUND; -2: there is none such.");
        Edge.due("x 2 is M", Texts.on("curve 0 -2 within 2 1;").shows(2), 4);
        Edge.due("x 2 is above M", Texts.on("curve 0 -2 within 1 1;").shows(2), Edge.FAR);
        Edge.due("e 3 is E", Texts.on("curve -60 -105 within 200 3;").shows(5) >= 0 ? 1 : 0, 1);
        Edge.due("e 3 is above E", Texts.on("curve -60 -105 within 200 2;").shows(5), Edge.FAR);
        Edge.due("x 800 by M 20", Texts.on("curve -60 -128 within 800 1;").shows(2) >= 0 ? 1 : 0, 1);
        Edge.due("x 800 is above M", Texts.on("curve -60 -128 within 799 1;").shows(2), Edge.FAR);
        Edge.due("not FOUND", flat.shows(1), Edge.NONE);
        Edge.due("MADE, not FOUND", Texts.on("curve -27 -52;").shows(madeAlone()), Edge.NONE);
        for (int k : new int[] {-1, 4, 5, 63, 64, Edge.ZERO, Edge.LEAST, Edge.MOST}) Edge.stays("shows " + k, x -> x.shows(k), -2);
        Edge.due("no curve", new CurvePoints().shows(0), -2);
    }

    private static int madeAlone() {
        CurvePoints x = Texts.on("curve -27 -52;");
        for (int k = 0; k < x.classes(0, 0); k++) if (x.classOf(0, k, 3) == 1 && x.classOf(0, k, 1) == 0) return k;
        return Edge.NONE;
    }

    private static void turnsRank() {
        Edge.says(60, "By which d, -9 .. 9, not 0, the CURVE turned by d (a, b in their bounds) has RANK at least r (0 .. 9), as bits (9 and d). -2.");
        int all = (1 << 19) - 1 & ~(1 << 9);
        Edge.stays("0 by all, not by 0", x -> x.turnsRank(0), all);
        Edge.stays("9 by none", x -> x.turnsRank(9), 0);
        for (int r : new int[] {-1, 10, Edge.LEAST, Edge.MOST}) Edge.stays("r " + r, x -> x.turnsRank(r), -2);
        for (String curve : new String[] {"0 -2", "0 1", "3 2", "30 50", "-30 50", "31 51", "6 -2", "17 -105", "-60 -161", "-60 200"}) {
            for (int r = 0; r <= 4; r++) {
                int want = 0;
                for (int d = -9; d <= 9; d++) {
                    CurvePoints x = Texts.on("curve " + curve + " within 1 1;");
                    if (x.twists(d) >= 0 && x.rank(0) >= r) want |= 1 << 9 + d;
                }
                Edge.due(curve + ", " + r, Texts.on("curve " + curve + ";").turnsRank(r), want);
            }
        }
        Edge.due("30 50, by -2 .. 2", Texts.on("curve 30 50;").turnsRank(0), 1 << 7 | 1 << 8 | 1 << 10 | 1 << 11);
        Edge.due("31 51, by -1, 1", Texts.on("curve 31 51;").turnsRank(0), 1 << 8 | 1 << 10);
        Edge.due("its own RANK is 3", Texts.on("curve 17 -105;").turnsRank(3) >> 10 & 1, 1);
        Edge.due("not 4", Texts.on("curve 17 -105;").turnsRank(4) >> 10 & 1, 0);
        Edge.due("no curve", new CurvePoints().turnsRank(0), -2);
    }
}
