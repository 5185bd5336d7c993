/** The boundary sentences of the curve BESIDE, its POINTS and the ways there and back, and of what stays the same. */
final class BesideEdges {
    private static final int[] NO_POINTS = {-1, 7, 999, 1001, Edge.LEAST, Edge.MOST};
    private static final int[] NO_WHATS = {-1, 2, Edge.LEAST, Edge.MOST};

    private BesideEdges() {
    }

    static void run() {
        beside();
        same();
        overMany();
        overPoint();
        over();
        back();
    }

    private static void beside() {
        Edge.says(31, "x of a POINT of the LIST that goes over to the curve BESIDE: y y by x x, what 0: u, 1: v.");
        int[][] want = {{1, 1}, {1, 1}, null, {1, 1}, {1, 1}, {49, 36}, {49, 36}};
        for (int i = 0; i < 7; i++) {
            if (i == 2) continue;
            int asked = i;
            Edge.stays("u of " + i, x -> x.beside(asked, 0), want[i][0]);
            Edge.stays("v of " + i, x -> x.beside(asked, 1), want[i][1]);
        }
        CurvePoints five = Texts.on("curve 0 -25 within 100 2;");
        Edge.due("y 0, u", five.beside(0, 0), 0);
        Edge.due("y 0, v", five.beside(0, 1), 1);
        Edge.due("300 by 45, u", five.beside(6, 0), 400);
        Edge.due("300 by 45, v", five.beside(6, 1), 9);
        CurvePoints wide = Texts.on("curve -45 -190 within 1000 6;");
        Edge.due("30900 by 1000, u", wide.beside(6, 0), 309 * 309);
        Edge.due("30900 by 1000, v", wide.beside(6, 1), 100);
        Edge.says(31, "NO_SUCH (of ZERO, of x 0, too).");
        for (int what = 0; what < 2; what++) {
            int asked = what;
            Edge.stays("x 0, what " + what, x -> x.beside(2, asked), Edge.NO_SUCH);
            Edge.stays("zero, what " + what, x -> x.beside(Edge.ZERO, asked), Edge.NO_SUCH);
            for (int i : NO_POINTS) Edge.stays("beside " + i, x -> x.beside(i, asked), Edge.NO_SUCH);
        }
        for (int what : NO_WHATS) Edge.stays("what " + what, x -> x.beside(5, what), Edge.NO_SUCH);
        Edge.due("no curve", new CurvePoints().beside(0, 0), Edge.NO_SUCH);
    }

    private static void same() {
        Edge.says(32, "256 times (a a - 3 b) three times, by b b (a a - 4 b), in lowest terms, what 0: above, 1: below (above 0). NO_SUCH.");
        // 256 (a a - 3 b) three times and b b (a a - 4 b): 0; 27648 by 16; 512 by -3; -256 4096 by -147; 2048 by 4 and a sign.
        String[] curves = {"3 3", "0 -2", "1 1", "5 7", "0 200", "-60 -200", "60 -200"};
        for (String curve : curves) {
            CurvePoints x = Texts.on("curve " + curve + ";");
            java.math.BigInteger base = java.math.BigInteger.valueOf(x.count(0) * x.count(0) - 3 * x.count(1));
            java.math.BigInteger above = base.pow(3).multiply(java.math.BigInteger.valueOf(256));
            java.math.BigInteger below = java.math.BigInteger.valueOf(x.count(1) * x.count(1) * (x.count(0) * x.count(0) - 4 * x.count(1)));
            java.math.BigInteger shared = above.gcd(below).multiply(java.math.BigInteger.valueOf(below.signum()));
            Edge.due(curve + " above", x.same(0), above.divide(shared).longValueExact());
            Edge.due(curve + " below", x.same(1), below.divide(shared).longValueExact());
            Edge.due(curve + " below is above 0", x.same(1) > 0 ? 1 : 0, 1);
        }
        Edge.due("0 above", Texts.on("curve 3 3;").same(0), 0);
        Edge.due("0 below", Texts.on("curve 3 3;").same(1), 1);
        Edge.due("5 7 above", Texts.on("curve 5 7;").same(0), -16384);
        Edge.due("5 7 below", Texts.on("curve 5 7;").same(1), 147);
        for (int what : NO_WHATS) Edge.stays("what " + what, x -> x.same(what), Edge.NO_SUCH);
        Edge.due("no curve", new CurvePoints().same(0), Edge.NO_SUCH);
        CurvePoints x = Texts.on("curve 3 1;");
        long above = x.same(0);
        x.twists(-9);
        Edge.due("turned, the same", x.same(0), above);
    }

    private static void overMany() {
        Edge.says(50, "POINTS of the LIST of the curve BESIDE (by the same M, E; also if its a, b were out of their bounds). -2.");
        Edge.stays("M 10, E 2", CurvePoints::overMany, 5);
        CurvePoints x = Edge.busy();
        x.within(8, 2);
        Edge.due("m 8 is M", x.overMany(), 5);
        x.within(7, 2);
        Edge.due("m 8 is above M", x.overMany(), 3);
        x.undo();
        Edge.due("taken back", x.overMany(), 5);
        x.within(49, 6);
        Edge.due("49 by 36", x.overMany(), 7);
        x.within(49, 5);
        Edge.due("e 6 is above E", x.overMany(), 5);
        x.goesBeside();
        Edge.due("of that beside the one beside", x.overMany(), Texts.on("curve 0 -32 within 49 5;").count(4));
        // a 120, b 4400: (0, 0) and what else has a root.
        for (int[] row : new int[][] {{60, -200}, {-60, -200}, {60, 200}, {17, -105}, {31, 1}, {0, 51}, {0, -51}}) {
            CurvePoints wide = Texts.on("curve " + row[0] + " " + row[1] + " within 100 3;");
            Edge.due(row[0] + " " + row[1], wide.overMany(), manyBeside(-2 * row[0], row[0] * row[0] - 4 * row[1], 100, 3));
        }
        Edge.due("no curve", new CurvePoints().overMany(), -2);
    }

    private static int gcd(int x, int y) {
        return y == 0 ? Math.abs(x) : gcd(y, x % y);
    }

    private static int manyBeside(long a, long b, int most, int deepest) {
        int many = 0;
        for (int e = 1; e <= deepest; e++) {
            for (int m = -most; m <= most; m++) {
                long value = (long) m * m * m + a * m * m * e * e + b * m * e * e * e * e;
                if (value < 0 || gcd(m, e) != 1) continue;
                long root = (long) Math.sqrt((double) value);
                if (root * root == value) many += root == 0 ? 1 : 2;
            }
        }
        return many;
    }

    private static void overPoint() {
        Edge.says(51, "Of its POINT j, what 0: m, 1: n, 2: e. NO_SUCH.");
        int[][] want = {{0, 0, 1}, {1, -3, 1}, {1, 3, 1}, {8, -24, 1}, {8, 24, 1}};
        for (int j = 0; j < 5; j++) {
            for (int what = 0; what < 3; what++) {
                int one = j;
                int asked = what;
                Edge.stays("overPoint " + j + " " + what, x -> x.overPoint(one, asked), want[j][what]);
            }
        }
        for (int j : new int[] {-1, 5, 6, 120, 999, Edge.ZERO, 1001, Edge.LEAST, Edge.MOST}) {
            for (int what = 0; what < 3; what++) {
                int asked = what;
                Edge.stays("overPoint " + j, x -> x.overPoint(j, asked), Edge.NO_SUCH);
            }
        }
        for (int what : new int[] {-1, 3, Edge.LEAST, Edge.MOST}) Edge.stays("what " + what, x -> x.overPoint(0, what), Edge.NO_SUCH);
        Edge.due("no curve", new CurvePoints().overPoint(0, 0), Edge.NO_SUCH);
        CurvePoints six = Texts.on("curve 0 -2 within 49 6;");
        Edge.due("e 6", six.overPoint(6, 2), 6);
    }

    private static void over() {
        Edge.says(52, "Its POINT to which a POINT goes over: x is y y by x x, y is y (b - x x) by x x (of x 0, of ZERO: ZERO). FAR: it is not in its LIST; -2.");
        int[] want = {2, 1, Edge.ZERO, 2, 1, Edge.FAR, Edge.FAR};
        for (int i = 0; i < 7; i++) {
            int asked = i;
            Edge.stays("over " + i, x -> x.over(asked), want[i]);
        }
        Edge.stays("zero", x -> x.over(Edge.ZERO), Edge.ZERO);
        for (int i : NO_POINTS) Edge.stays("over " + i, x -> x.over(i), -2);
        // (9/4, -21/8) goes to x 49 by 36.
        CurvePoints six = Texts.on("curve 0 -2 within 49 6;");
        Edge.due("m 49 and e 6 are M and E", six.over(six.at(9, 2, -1)), 6);
        CurvePoints low = Texts.on("curve 0 -2 within 48 6;");
        Edge.due("m 49 is above M", low.over(low.at(9, 2, -1)), Edge.FAR);
        CurvePoints flat = Texts.on("curve 0 -2 within 49 5;");
        Edge.due("e 6 is above E", flat.over(flat.at(9, 2, -1)), Edge.FAR);
        CurvePoints five = Texts.on("curve 0 -25 within 100 2;");
        int middle = 0;
        while (five.overPoint(middle, 0) != 0) middle++;
        Edge.due("y 0 goes to (0, 0)", five.over(0), middle);
        Edge.due("the other one, too", five.over(4), middle);
        Edge.due("no curve", new CurvePoints().over(Edge.ZERO), -2);
    }

    private static void back() {
        Edge.says(53, "The POINT to which a POINT of the curve BESIDE (1000: ZERO) comes back: x is y y by 4 x x, y is y (c - x x) by 8 x x, c being a a - 4 b (of x 0, of ZERO: ZERO).");
        // (1, -3): 9 by 4, -3 7 by 8; (8, -24): 576 by 256, 24 56 by 512.
        int[] want = {Edge.ZERO, 5, 6, 6, 5};
        for (int j = 0; j < 5; j++) {
            int asked = j;
            Edge.stays("back " + j, x -> x.back(asked), want[j]);
        }
        Edge.stays("zero", y -> y.back(Edge.ZERO), Edge.ZERO);
        CurvePoints four = Texts.on("curve 0 4;");
        for (int j = 0; j < four.overMany(); j++) {
            if (four.overPoint(j, 1) == 0 && four.overPoint(j, 0) != 0) Edge.due("y 0 comes to (0, 0)", four.back(j), four.at(0, 1, 0));
        }
        Edge.due("two such and (0, 0)", four.overMany() >= 3 ? 1 : 0, 1);
        Edge.says(53, "FAR; -2: there is no CURVE, no such POINT there.");
        Edge.due("m 9 is M", Texts.on("curve 0 -2 within 9 2;").back(1) >= 0 ? 1 : 0, 1);
        Edge.due("m 9 is above M", Texts.on("curve 0 -2 within 8 2;").back(1), Edge.FAR);
        Edge.due("e 2 is above E", Texts.on("curve 0 -2 within 9 1;").back(1), Edge.FAR);
        for (int j : new int[] {-1, 5, 6, 7, 120, 999, 1001, Edge.LEAST, Edge.MOST}) Edge.stays("back " + j, y -> y.back(j), -2);
        Edge.due("no curve", new CurvePoints().back(Edge.ZERO), -2);
        Edge.due("no curve, none there", new CurvePoints().back(0), -2);
    }
}
