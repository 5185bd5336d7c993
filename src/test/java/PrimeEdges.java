/** The boundary sentences of what is told BY A PRIME, and of the primes that divide. */
final class PrimeEdges {
    /** 3 and 97 are the ends; for the seven POINTS of Edge.busy() all primes between can be told. */
    private static final int[] PRIMES = {3, 5, 7, 11, 13, 17, 19, 23, 29, 31, 37, 41, 43, 47, 53, 59, 61, 67, 71, 73, 79, 83, 89, 97};
    private static final int[] NO_POINTS = {-1, 7, 999, 1001, Edge.LEAST, Edge.MOST};
    private static final int[] NO_WHATS = {-1, 2, Edge.LEAST, Edge.MOST};

    private PrimeEdges() {
    }

    static void run() {
        refused();
        dividing();
        changed();
        byHand();
        many();
        orders();
        bounds();
        traces();
        groups();
        logs();
        best();
        seen();
        alike();
        bad();
        breaks();
    }

    private static boolean isPrime(int p) {
        for (int prime : PRIMES) if (prime == p) return true;
        return false;
    }

    /** The calls that ask BY A PRIME, each with arguments that are right but for the prime. */
    private static void refusedBy(String what, Edge.Setup setup, int p) {
        Edge.stays(what + " many " + p, setup, x -> x.many(p), -2);
        Edge.stays(what + " orderBy " + p, setup, x -> x.orderBy(0, p), -2);
        Edge.stays(what + " trace " + p, setup, x -> x.trace(p), Edge.NO_SUCH);
        Edge.stays(what + " groupBy " + p, setup, x -> x.groupBy(p, 0) + x.groupBy(p, 1), -4);
        Edge.stays(what + " logBy " + p, setup, x -> x.logBy(0, 0, p), -2);
        Edge.stays(what + " bestBy " + p, setup, x -> x.bestBy(p, 0) + x.bestBy(p, 1), -4);
        Edge.stays(what + " seenBy " + p, setup, x -> x.seenBy(p), -2);
    }

    private static void refused() {
        Edge.says(Edge.TERMS, "BY A PRIME p (3 .. 97)");
        for (int p = -5; p <= 105; p++) {
            CurvePoints x = Texts.on("curve 0 -2 within 10 2;");
            Edge.due("many " + p, x.many(p) == -2 ? 0 : 1, isPrime(p) ? 1 : 0);
            Edge.due("trace " + p, x.trace(p) == Edge.NO_SUCH ? 0 : 1, isPrime(p) ? 1 : 0);
            Edge.due("orderBy " + p, x.orderBy(1, p) == -2 ? 0 : 1, isPrime(p) ? 1 : 0);
            Edge.due("groupBy " + p, x.groupBy(p, 0) == -2 ? 0 : 1, isPrime(p) ? 1 : 0);
            Edge.due("logBy " + p, x.logBy(1, 1, p) == -2 ? 0 : 1, isPrime(p) ? 1 : 0);
            Edge.due("bestBy " + p, x.bestBy(p, 0) == -2 ? 0 : 1, isPrime(p) ? 1 : 0);
            Edge.due("seenBy " + p, x.seenBy(p) == -2 ? 0 : 1, isPrime(p) ? 1 : 0);
        }
        for (int p : new int[] {2, 101, 1, 0, -3, 9, 91, Edge.LEAST, Edge.MOST}) refusedBy("no prime", Edge::busy, p);
        // 2 divides neither b nor a a - 4 b of these.
        refusedBy("b 1, a a - 4 b -3", () -> Texts.on("curve 1 1;"), 2);
        refusedBy("b -105, a a - 4 b 421", () -> Texts.on("curve 1 -105;"), 2);
        Edge.due("bad(2) where it divides neither", Texts.on("curve 1 1;").bad(2), -2);
        for (int p : new int[] {3, 97}) refusedBy("no curve", CurvePoints::new, p);
    }

    private static void dividing() {
        Edge.says(Edge.TERMS, "that divides neither b nor a a - 4 b");
        // 97 divides b; a a - 4 b is 97; 3 divides b, 5 a a - 4 b; a a - 4 b is 3 times 67.
        refusedBy("b 97", () -> Texts.on("curve 1 97;"), 97);
        refusedBy("b -194", () -> Texts.on("curve 1 -194;"), 97);
        refusedBy("a a - 4 b 97", () -> Texts.on("curve 1 -24;"), 97);
        refusedBy("b -6", () -> Texts.on("curve 1 -6;"), 3);
        refusedBy("a a - 4 b 25", () -> Texts.on("curve 1 -6;"), 5);
        CurvePoints x = Texts.on("curve 1 -6;");
        for (int p : PRIMES) Edge.due("1 -6 by " + p, x.many(p) == -2 ? 1 : 0, p == 3 || p == 5 ? 1 : 0);
        Texts.curve(x, "curve 0 -2;");
        Edge.due("of another curve", x.many(3), 4);
        Texts.curve(x, "curve 1 -6;");
        Edge.due("and of that again", x.many(3), -2);
        CurvePoints twisted = Texts.on("curve 0 -2;");
        Edge.due("told", twisted.many(5), 10);
        twisted.twists(5);
        Edge.due("not, turned by it", twisted.many(5), -2);
        twisted.undo();
        Edge.due("taken back", twisted.many(5), 10);
    }

    /** What was told of one CURVE is not told of the next one, though a or b or the prime is the same. */
    private static void changed() {
        Edge.says(Edge.TERMS, "numbers modulo p; all twos x, y with the equation, and ZERO; SUM as above by them");
        int[][] curves = {{1, 3}, {2, 3}, {1, 3}, {1, 2}, {3, 2}, {3, 7}, {-1, 7}, {1, 3}};
        for (int p : new int[] {13, 19, 97}) {
            CurvePoints x = new CurvePoints();
            for (int[] row : curves) {
                Texts.curve(x, "curve " + row[0] + " " + row[1] + ";");
                ByPrime hand = new ByPrime(row[0], row[1], p);
                String what = row[0] + " " + row[1] + " by " + p;
                boolean told = row[1] % p != 0 && (row[0] * row[0] - 4 * row[1]) % p != 0;
                Edge.due(what + ", bestBy", x.bestBy(p, 0), told ? hand.best() / 100 : -2);
                Edge.due(what + ", many", x.many(p), told ? hand.many() : -2);
                Edge.due(what + ", groupBy", x.groupBy(p, 0), told ? hand.order(hand.best()) : -2);
            }
            CurvePoints turned = Texts.on("curve 1 3;");
            long ahead = turned.many(p);
            turned.twists(-1);
            Edge.due("turned by " + p, turned.many(p), new ByPrime(-1, 3, p).many());
            turned.undo();
            Edge.due("taken back by " + p, turned.many(p), ahead);
        }
    }

    private static void byHand() {
        Edge.says(Edge.TERMS, "is one of these; else it is ZERO");
        int[][] curves = {{1, -6}, {17, -105}, {-59, 109}, {-13, 41}, {3, -1}, {60, 200}};
        for (int[] row : curves) {
            for (int p : PRIMES) {
                if (row[1] % p == 0 || (row[0] * row[0] - 4 * row[1]) % p == 0) continue;
                CurvePoints x = Texts.on("curve " + row[0] + " " + row[1] + " within 200 3;");
                ByPrime hand = new ByPrime(row[0], row[1], p);
                String what = row[0] + " " + row[1] + " by " + p;
                int best = hand.best();
                int greatest = hand.order(best);
                Edge.due(what + ", greatest", x.groupBy(p, 0), greatest);
                Edge.due(what + ", many by it", x.groupBy(p, 1), hand.many() / greatest);
                Edge.due(what + ", x of the first", x.bestBy(p, 0), best / 100);
                Edge.due(what + ", y of the first", x.bestBy(p, 1), best % 100);
                pointsByHand(x, hand, p, what);
            }
        }
    }

    private static void pointsByHand(CurvePoints x, ByPrime hand, int p, String what) {
        int[] codes = new int[(int) x.count(4)];
        java.util.Set<Integer> unlike = new java.util.HashSet<>();
        for (int i = 0; i < codes.length; i++) {
            codes[i] = hand.code(x.point(i, 0), x.point(i, 1), x.point(i, 2));
            unlike.add(codes[i]);
        }
        for (int i = 0; i < codes.length; i++) {
            int j = codes.length - 1 - i;
            Edge.due(what + ", orderBy " + i, x.orderBy(i, p), hand.order(codes[i]));
            Edge.due(what + ", logBy " + i + " " + j, x.logBy(i, j, p), hand.log(codes[i], codes[j]));
        }
        Edge.due(what + ", seenBy", x.seenBy(p), unlike.size());
    }

    private static void many() {
        Edge.says(16, "BY A PRIME: how many POINTS there are. -2: no such prime.");
        for (int[] row : new int[][] {{0, -2}, {-60, -200}, {60, 199}, {1, 1}}) {
            CurvePoints x = Texts.on("curve " + row[0] + " " + row[1] + ";");
            for (int p : PRIMES) {
                boolean divides = row[1] % p == 0 || (row[0] * row[0] - 4 * row[1]) % p == 0;
                Edge.due(row[0] + " " + row[1] + " by " + p, x.many(p), divides ? -2 : new ByPrime(row[0], row[1], p).many());
            }
        }
    }

    private static void orders() {
        Edge.says(17, "BY A PRIME the least k above 0 by which k times a POINT is ZERO. -2.");
        int[][] rows = {{Edge.ZERO, 3, 1}, {Edge.ZERO, 97, 1}, {2, 3, 2}, {2, 97, 2}, {1, 3, 4}, {0, 3, 4}, {5, 3, 2}};
        for (int[] row : rows) Edge.stays("orderBy " + row[0] + " " + row[1], x -> x.orderBy(row[0], row[1]), row[2]);
        for (int i : NO_POINTS) Edge.stays("orderBy " + i, x -> x.orderBy(i, 3), -2);
        Edge.says(Edge.TERMS, "A POINT of the LIST, e being no multiple of p, is one of these; else it is ZERO.");
        CurvePoints wide = Texts.on("curve 0 -36 within 1000 6;");
        Edge.due("e 5 by 5", wide.orderBy(15, 5), 1);
        Edge.due("e 5 by 7", wide.orderBy(15, 7) > 1 ? 1 : 0, 1);
        Edge.due("e 2 by 5", wide.orderBy(13, 5) > 1 ? 1 : 0, 1);
        CurvePoints six = Texts.on("curve -5 104 within 1000 6;");
        int met = 0;
        for (int i = 0; i < six.count(4); i++) {
            if (six.point(i, 2) % 3 != 0) continue;
            met += six.point(i, 2) == 6 ? 1 : 0;
            Edge.due("e 3 or 6 by 3, " + i, six.orderBy(i, 3), 1);
        }
        Edge.due("e 6 was met", met > 0 ? 1 : 0, 1);
    }

    private static void bounds() {
        Edge.says(18, "The greatest common divisor of many(p) of all primes 3 .. 97 for which that can be told. -2.");
        String[] curves = {"0 -2", "-14 81", "-12 48", "22 -135", "0 -1", "0 4", "1 -6", "-60 -200"};
        for (String curve : curves) {
            CurvePoints x = Texts.on("curve " + curve + ";");
            int shared = 0;
            for (int p : PRIMES) if (x.many(p) != -2) shared = java.math.BigInteger.valueOf(shared).gcd(java.math.BigInteger.valueOf(x.many(p))).intValue();
            Edge.due(curve, x.bound(), shared);
        }
        Edge.stays("bound", CurvePoints::bound, 2);
        Edge.stays("no curve", CurvePoints::new, CurvePoints::bound, -2);
    }

    private static void traces() {
        Edge.says(19, "BY A PRIME: p and 1 less many(p). NO_SUCH.");
        Edge.stays("by 3, as many as p and 1", x -> x.trace(3), 0);
        Edge.stays("by 5", x -> x.trace(5), -4);
        Edge.stays("by 97", x -> x.trace(97), 98 - 116);
        Edge.says(62, "The sum of trace(p) of all primes p from 3 to n (0 .. 97) for which it can be told. NO_SUCH.");
        for (String curve : new String[] {"0 -2", "1 -6", "0 -25", "1 -24"}) {
            CurvePoints x = Texts.on("curve " + curve + ";");
            long all = 0;
            for (int n = 0; n <= 97; n++) {
                if (isPrime(n) && x.trace(n) != Edge.NO_SUCH) all += x.trace(n);
                Edge.due(curve + " to " + n, x.traces(n), all);
            }
        }
        for (int n : new int[] {-1, 98, 101, Edge.LEAST, Edge.MOST}) Edge.stays("to " + n, x -> x.traces(n), Edge.NO_SUCH);
        Edge.stays("no curve", CurvePoints::new, x -> x.traces(0), Edge.NO_SUCH);
    }

    private static void groups() {
        Edge.says(43, "BY A PRIME, what 0: the greatest of all orderBy there (of all its POINTS), 1: many(p) by that. -2.");
        int[][] rows = {{3, 0, 4}, {3, 1, 1}, {97, 0, 58}, {97, 1, 2}};
        for (int[] row : rows) Edge.stays("groupBy " + row[0] + " " + row[1], x -> x.groupBy(row[0], row[1]), row[2]);
        for (int what : NO_WHATS) Edge.stays("what " + what, x -> x.groupBy(3, what), -2);
        CurvePoints five = Texts.on("curve 0 -25;");
        Edge.due("two of each, 7", five.groupBy(7, 0) * 10 + five.groupBy(7, 1), 42);
        Edge.due("3, all twos", five.groupBy(3, 0) * 10 + five.groupBy(3, 1), 22);
    }

    private static void logs() {
        Edge.says(44, "BY A PRIME the least k, 0 and above, by which k times the one POINT is the other one. NONE: none; -2.");
        int[][] rows = {
            {1, Edge.ZERO, 3, 0}, {Edge.ZERO, Edge.ZERO, 3, 0}, {1, 1, 3, 1}, {1, 5, 3, 2}, {1, 0, 3, 3}, {1, 2, 3, 2}, {2, 2, 97, 1}, {2, Edge.ZERO, 97, 0},
            {2, 1, 3, Edge.NONE}, {Edge.ZERO, 1, 3, Edge.NONE}, {5, 1, 3, Edge.NONE}
        };
        for (int[] row : rows) Edge.stays("logBy " + row[0] + " " + row[1] + " " + row[2], x -> x.logBy(row[0], row[1], row[2]), row[3]);
        CurvePoints x = Edge.busy();
        for (int p : PRIMES) Edge.due("the turned one, by " + p, x.logBy(1, 0, p), x.orderBy(1, p) - 1);
        for (int i : NO_POINTS) {
            Edge.stays("logBy " + i + " 1", y -> y.logBy(i, 1, 3), -2);
            Edge.stays("logBy 1 " + i, y -> y.logBy(1, i, 3), -2);
            Edge.stays("none there either, " + i, y -> y.logBy(2, i, 3), -2);
        }
        CurvePoints wide = Texts.on("curve 0 -36 within 1000 6;");
        Edge.due("to one that is ZERO by 5", wide.logBy(1, 15, 5), 0);
        Edge.due("from one that is ZERO by 5", wide.logBy(15, 1, 5), Edge.NONE);
        Edge.due("from it to another such", wide.logBy(15, 16, 5), 0);
    }

    private static void best() {
        Edge.says(45, "BY A PRIME of all its POINTS with the greatest orderBy the first by x, then y (ZERO first of all), what 0: x, 1: y; NONE: it is ZERO; -2.");
        // By 3 the POINTS are ZERO, (0, 0), (2, 1), (2, 2).
        Edge.stays("x by 3", x -> x.bestBy(3, 0), 2);
        Edge.stays("y by 3", x -> x.bestBy(3, 1), 1);
        // By 3 the POINTS of yy = xxx - x are ZERO, (0, 0), (1, 0), (2, 0).
        CurvePoints twos = Texts.on("curve 0 -1;");
        Edge.due("x of the first of like ones", twos.bestBy(3, 0), 0);
        Edge.due("y of it", twos.bestBy(3, 1), 0);
        // The first comes late here: of all CURVES none has it behind x 47.
        int[][] late = {{-17, -47, 71, 47}, {-35, -41, 97, 45}, {-41, 31, 83, 42}};
        for (int[] row : late) {
            CurvePoints x = Texts.on("curve " + row[0] + " " + row[1] + " within 1 1;");
            int hand = new ByPrime(row[0], row[1], row[2]).best();
            Edge.due("a late x by " + row[2], x.bestBy(row[2], 0), row[3]);
            Edge.due("a late x by " + row[2] + ", by hand", hand / 100, row[3]);
            Edge.due("its y", x.bestBy(row[2], 1), hand % 100);
        }
        for (int what : NO_WHATS) Edge.stays("what " + what, x -> x.bestBy(3, what), -2);
    }

    private static void seen() {
        Edge.says(58, "BY A PRIME: how many unlike POINTS those of the LIST are. -2.");
        Edge.stays("by 3", x -> x.seenBy(3), 3);
        Edge.stays("by 97", x -> x.seenBy(97), 7);
        Edge.due("one alone", Texts.on("curve 3 5 within 1 1;").seenBy(97) >= 1 ? 1 : 0, 1);
        CurvePoints wide = Texts.on("curve 0 -36 within 1000 6;");
        Edge.due("two that are ZERO by 5", wide.seenBy(5), 8);
        wide.within(1, 1);
        Edge.due("of another LIST", wide.seenBy(5), 1);
        CurvePoints full = Texts.on("curve 17 -105 within 1000 6;");
        Edge.due("all there are by 11", full.seenBy(11) <= full.many(11) ? 1 : 0, 1);
    }

    private static void alike() {
        Edge.says(59, "The least prime BY which two POINTS are one. NONE: by none; -2.");
        int[][] rows = {{1, 3, 3}, {1, 4, Edge.NONE}, {2, 2, 3}, {Edge.ZERO, Edge.ZERO, 3}, {Edge.ZERO, 5, Edge.NONE}, {5, Edge.ZERO, Edge.NONE}, {Edge.ZERO, 2, Edge.NONE}};
        for (int[] row : rows) Edge.stays("firstAlike " + row[0] + " " + row[1], x -> x.firstAlike(row[0], row[1]), row[2]);
        for (int i : NO_POINTS) {
            Edge.stays("firstAlike " + i + " 1", x -> x.firstAlike(i, 1), -2);
            Edge.stays("firstAlike 1 " + i, x -> x.firstAlike(1, i), -2);
        }
        // (75, -315) and (9/4, 99/8): by 97 alone.
        Edge.due("by 97", Texts.on("curve -60 198;").firstAlike(5, 10), 97);
        // 3 and 5 divide b or a a - 4 b.
        Edge.due("itself, the least that can be told", Texts.on("curve 1 -6;").firstAlike(0, 0), 7);
        Edge.due("no curve", new CurvePoints().firstAlike(Edge.ZERO, Edge.ZERO), -2);
    }

    private static void bad() {
        Edge.says(54, "Of a prime p (3 .. 97) that divides b or a a - 4 b: 1 if (p dividing b) a, else (p not dividing b) -2 a is like a square other than 0 modulo p, 2 if it is like none, 3 if it is like 0.");
        String[] curves = {
            "-59 -198", "-58 -198", "-60 -198", "-59 -200", "-58 -200", "-54 -194", "-60 -194", "0 -194", "-54 -144", "-60 -167", "1 -6", "-2 -2"
        };
        // a is 1, 2, 0 modulo 3 by b; -2 a is 1 (118) and 2 (116) modulo 3; by 97 -54 is like 43, -60 like 37.
        int[][] want = {{3, 1}, {3, 2}, {3, 3}, {3, 1}, {3, 2}, {97, 1}, {97, 2}, {97, 3}, {97, 1}, {97, 2}, {3, 1}, {3, 1}};
        for (int k = 0; k < curves.length; k++) {
            CurvePoints x = Texts.on("curve " + curves[k] + ";");
            Edge.due(curves[k] + " by " + want[k][0], x.bad(want[k][0]), want[k][1]);
        }
        // -2 is like no square modulo 5, 7, 13, 23: there it matters which of a and -2 a is asked.
        for (int p : new int[] {3, 5, 7, 11, 13, 17, 23, 97}) {
            for (int a = -6; a <= 6; a++) {
                Edge.due(p + " divides b, a " + a, Texts.on("curve " + a + " " + p + ";").bad(p), likeSquare(a, p));
                int b = (a * a - p) / 4;
                if ((a * a - p) % 4 != 0 || b % p == 0) continue;
                Edge.due(p + " divides a a - 4 b, a " + a, Texts.on("curve " + a + " " + b + ";").bad(p), likeSquare(-2 * a, p));
            }
        }
        Edge.says(54, "-2: it divides neither, is none.");
        for (int p = -3; p <= 104; p++) Edge.due("0 -2 by " + p, Edge.busy().bad(p), -2);
        for (int p = -3; p <= 104; p++) Edge.due("0 -150 by " + p, Texts.on("curve 0 -150;").bad(p), p == 3 || p == 5 ? 3 : -2);
        for (int p : new int[] {2, 7, 101, 0, Edge.LEAST, Edge.MOST}) Edge.stays("bad " + p, x -> x.bad(p), -2);
        Edge.stays("no curve", CurvePoints::new, x -> x.bad(3), -2);
    }

    private static int likeSquare(int value, int p) {
        if (value % p == 0) return 3;
        for (int root = 1; root < p; root++) if ((root * root - value) % p == 0) return 1;
        return 2;
    }

    private static void breaks() {
        Edge.says(61, "16 b b (a a - 4 b) (p 0), how often a prime p (2 .. 97) goes into it. NO_SUCH.");
        Edge.stays("all", x -> x.breaks(0), 16L * 4 * 8);
        Edge.stays("2", x -> x.breaks(2), 9);
        Edge.stays("3", x -> x.breaks(3), 0);
        Edge.stays("97", x -> x.breaks(97), 0);
        for (int p = -5; p <= 105; p++) {
            boolean prime = p == 2 || isPrime(p);
            Edge.due("0 -2 by " + p, Edge.busy().breaks(p), p == 0 ? 512 : p == 2 ? 9 : prime ? 0 : Edge.NO_SUCH);
        }
        for (int p : new int[] {1, -1, -2, 4, 98, 101, Edge.LEAST, Edge.MOST}) Edge.stays("breaks " + p, x -> x.breaks(p), Edge.NO_SUCH);
        // b 64, a a - 4 b 2048: 2 goes 4, 12 and 11 times into them.
        Edge.due("2, the most", Texts.on("curve -48 64;").breaks(2), 27);
        Edge.due("97 in b b and a a - 4 b", Texts.on("curve 0 -194;").breaks(97), 3);
        Edge.due("97 in a a - 4 b", Texts.on("curve 1 -24;").breaks(97), 1);
        Edge.due("the greatest", Texts.on("curve 60 -200;").breaks(0), 16L * 40000 * 4400);
        Edge.due("below 0", Texts.on("curve 0 200;").breaks(0), -16L * 40000 * 800);
        Edge.due("how often in one below 0", Texts.on("curve 0 200;").breaks(5), 6);
        Edge.stays("no curve", CurvePoints::new, x -> x.breaks(0), Edge.NO_SUCH);
    }
}
