import java.util.ArrayList;
import java.util.List;

/** The boundary sentences of the POINTS and the LIST, and of the calls that ask them one by one. */
final class PointEdges {
    private PointEdges() {
    }

    static void run() {
        listBounds();
        listOrder();
        listEnd();
        points();
        places();
        turned();
        heights();
        bits();
        parts();
        between();
        nearest();
        sorts();
    }

    private static int size(String text) {
        return (int) Texts.on(text).count(4);
    }

    private static void listBounds() {
        Edge.says(Edge.TERMS, "POINTS: x being m by e e, y being n by e e e, e 1 .. E, m -M .. M");
        Edge.due("m 9 is M", size("curve 0 -2 within 9 2;"), 7);
        Edge.due("m 9 is above M", size("curve 0 -2 within 8 2;"), 5);
        Edge.due("e 2 is E", size("curve 0 -2 within 10 2;"), 7);
        Edge.due("e 2 is above E", size("curve 0 -2 within 10 1;"), 5);
        Edge.due("m -5 is -M", Texts.on("curve 0 -25 within 5 1;").at(-5, 1, 0), 0);
        Edge.due("m -5 is below -M", Texts.on("curve 0 -25 within 4 1;").at(-5, 1, 0), Edge.NONE);
        Edge.due("m 1000", Texts.on("curve -45 -190 within 1000 1;").at(1000, 1, 1), 6);
        Edge.due("m 1000 is above 999", Texts.on("curve -45 -190 within 999 1;").at(1000, 1, 1), Edge.NONE);
        Edge.due("e 6", size("curve -5 104 within 1000 6;") > size("curve -5 104 within 1000 5;") ? 1 : 0, 1);
        Edge.due("M 1", size("curve 0 -2 within 1 1;"), 3);
        Edge.says(Edge.TERMS, "m and e without a common divisor (0 with 1 alone), n whole.");
        // 27 - 6 is 21, no square; 8 - 4 is one; 1 - 2 is below 0.
        for (int m = -10; m <= 10; m++) Edge.due("n by m " + m, Texts.on("curve 0 -2;").at(m, 1, 1) >= 0 ? 1 : 0, m == -1 || m == 2 ? 1 : 0);
        CurvePoints x = Texts.on("curve 17 -105 within 1000 6;");
        for (int e = 2; e <= 6; e++) Edge.due("0 with " + e, x.at(0, e, 0), Edge.NONE);
        Edge.due("0 with 1", x.at(0, 1, 0), 14);
        // x 7 as 28 by 2 2 and as 63 by 3 3.
        Edge.due("7 with 1", x.at(7, 1, 1), 18);
        Edge.due("28 with 2", x.at(28, 2, 1), Edge.NONE);
        Edge.due("63 with 3", x.at(63, 3, 1), Edge.NONE);
        Edge.due("(-21, -21) as -84 with 2", x.at(-84, 2, -1), Edge.NONE);
    }

    private static boolean isRoot(long value) {
        if (value < 0) return false;
        long root = (long) Math.sqrt((double) value);
        return root * root == value;
    }

    private static int gcd(int x, int y) {
        return y == 0 ? Math.abs(x) : gcd(y, x % y);
    }

    /** m, n, e of all POINTS, as the terms tell them. */
    private static List<int[]> all(int a, int b, int most, int deepest) {
        List<int[]> points = new ArrayList<>();
        for (int e = 1; e <= deepest; e++) {
            for (int m = -most; m <= most; m++) {
                long value = (long) m * m * m + (long) a * m * m * e * e + (long) b * m * e * e * e * e;
                if (gcd(m, e) != 1 || !isRoot(value)) continue;
                int n = (int) Math.sqrt((double) value);
                if (n > 0) points.add(new int[] {m, -n, e});
                points.add(new int[] {m, n, e});
            }
        }
        return points;
    }

    private static void listOrder() {
        Edge.says(Edge.TERMS, "The LIST: all of these, by e, then m, then n, the least first, numbered from 0");
        int[][] curves = {
            {17, -105, 1000, 6}, {17, -105, 169, 5}, {17, -105, 168, 5}, {0, -2, 1, 1}, {-60, -200, 1000, 6}, {60, 200, 1000, 6}, {60, -200, 1000, 6},
            {-60, 200, 1000, 6}, {49, 175, 45, 4}, {49, 175, 44, 4}, {0, 1, 1000, 6}, {-45, -190, 1000, 6}, {-55, -40, 1000, 6}, {35, 168, 999, 6}
        };
        for (int[] row : curves) {
            String text = "curve " + row[0] + " " + row[1] + " within " + row[2] + " " + row[3] + ";";
            CurvePoints x = Texts.on(text);
            List<int[]> want = all(row[0], row[1], row[2], row[3]);
            Edge.due(text, x.count(4), want.size());
            for (int i = 0; i < want.size(); i++) {
                for (int what = 0; what < 3; what++) Edge.due(text + " " + i + " " + what, x.point(i, what), want.get(i)[what]);
            }
        }
    }

    /** No CURVE comes near the LIST's end, so that nothing of it is ever cut; asked again of all, it would show. */
    private static void listEnd() {
        Edge.says(Edge.TERMS, "the first 120 alone");
        int most = 0;
        for (int a = -60; a <= 60; a++) {
            for (int b = -200; b <= 200; b++) {
                if (b != 0 && a * a != 4 * b) most = Math.max(most, size("curve " + a + " " + b + " within 1000 6;"));
            }
        }
        Edge.due("the most that a CURVE has", most, 73);
    }

    private static void points() {
        Edge.says(7, "Of a POINT of the LIST, what 0: m, 1: n, 2: e.");
        int[][] ends = {{0, -1, -1, 1}, {2, 0, 0, 1}, {6, 9, 21, 2}};
        for (int[] row : ends) {
            for (int what = 0; what < 3; what++) {
                int asked = what;
                Edge.stays("point " + row[0] + " " + what, x -> x.point(row[0], asked), row[1 + what]);
            }
        }
        Edge.says(7, "NO_SUCH (of ZERO, too).");
        for (int i : new int[] {-1, 7, 119, 120, 999, Edge.ZERO, 1001, Edge.LEAST, Edge.MOST}) {
            for (int what = 0; what < 3; what++) {
                int asked = what;
                Edge.stays("point " + i + " " + what, x -> x.point(i, asked), Edge.NO_SUCH);
            }
        }
        for (int what : new int[] {-1, 3, 4, Edge.LEAST, Edge.MOST}) Edge.stays("what " + what, x -> x.point(0, what), Edge.NO_SUCH);
        Edge.due("without a curve", new CurvePoints().point(0, 0), Edge.NO_SUCH);
        CurvePoints full = Texts.on("curve 17 -105 within 1000 6;");
        Edge.due("the last of the most", full.point(72, 0), 189);
        Edge.due("behind it", full.point(73, 0), Edge.NO_SUCH);
        Texts.curve(full, "curve 3 3 within 1 1;");
        Edge.due("nothing left of a longer LIST", full.point(1, 0), Edge.NO_SUCH);
    }

    private static void places() {
        Edge.says(8, "The number of the POINT with m, e, and n above 0 (sign 1), below (-1), 0 (0).");
        int[][] all = {{-1, 1, -1, 0}, {-1, 1, 1, 1}, {0, 1, 0, 2}, {2, 1, -1, 3}, {2, 1, 1, 4}, {9, 2, -1, 5}, {9, 2, 1, 6}};
        for (int[] row : all) Edge.stays("at " + row[0] + " " + row[1] + " " + row[2], x -> x.at(row[0], row[1], row[2]), row[3]);
        Edge.says(8, "NONE: it is not in the LIST; -2: no CURVE, another sign.");
        int[][] none = {
            {-1, 1, 0}, {0, 1, 1}, {0, 1, -1}, {0, 2, 0}, {0, 0, 0}, {9, 1, 1}, {9, 3, 1}, {9, -2, 1}, {-8, 3, 1}, {10, 1, 0}, {11, 1, 1}, {-2, 1, 1},
            {Edge.LEAST, 1, 1}, {Edge.MOST, 1, -1}, {2, Edge.LEAST, 1}, {2, Edge.MOST, 1}, {18, 2, 1}
        };
        for (int[] row : none) Edge.stays("at " + row[0] + " " + row[1] + " " + row[2], x -> x.at(row[0], row[1], row[2]), Edge.NONE);
        for (int sign : new int[] {-2, 2, Edge.LEAST, Edge.MOST}) {
            Edge.stays("sign " + sign, x -> x.at(2, 1, sign), -2);
            Edge.stays("sign " + sign + " and none there", x -> x.at(11, 1, sign), -2);
        }
        Edge.due("no curve", new CurvePoints().at(0, 1, 0), -2);
    }

    private static void turned() {
        Edge.says(9, "The TURNED one. FAR; -2.");
        int[] want = {1, 0, 2, 4, 3, 6, 5};
        for (int i = 0; i < 7; i++) {
            int asked = i;
            Edge.stays("turned " + i, x -> x.turned(asked), want[i]);
        }
        Edge.stays("zero", x -> x.turned(Edge.ZERO), Edge.ZERO);
        for (int i : new int[] {-1, 7, 999, 1001, Edge.LEAST, Edge.MOST}) Edge.stays("turned " + i, x -> x.turned(i), -2);
        CurvePoints full = Texts.on("curve 17 -105 within 1000 6;");
        Edge.due("the last of the most", full.turned(72), 71);
        Edge.due("its first", full.turned(0), 1);
    }

    private static void heights() {
        Edge.says(29, "The first POINT of the LIST with a HEIGHT of h (1 .. 1000) at least. NONE: none; -2.");
        int[][] first = {{1, 0}, {2, 3}, {3, 5}, {9, 5}, {10, Edge.NONE}, {1000, Edge.NONE}, {0, -2}, {-1, -2}, {1001, -2}, {Edge.LEAST, -2}, {Edge.MOST, -2}};
        for (int[] row : first) Edge.stays("above " + row[0], x -> x.above(row[0]), row[1]);
        CurvePoints wide = Texts.on("curve -45 -190 within 1000 6;");
        Edge.due("1000 at least", wide.above(1000), 5);
        Edge.due("191 at least, not the later 931 by 9", wide.above(191), 5);
        Edge.due("1001", wide.above(1001), -2);
        Edge.due("no curve", new CurvePoints().above(1), -2);
        Edge.says(30, "How many POINTS of the LIST have HEIGHTS up to h (1 .. 1000). -2.");
        int[][] many = {{1, 3}, {2, 5}, {8, 5}, {9, 7}, {1000, 7}, {0, -2}, {-1, -2}, {1001, -2}, {Edge.LEAST, -2}, {Edge.MOST, -2}};
        for (int[] row : many) Edge.stays("up to " + row[0], x -> x.upTo(row[0]), row[1]);
        Edge.due("up to 999", wide.upTo(999), 7);
        Edge.due("up to 1000", wide.upTo(1000), 9);
        Edge.due("no curve", new CurvePoints().upTo(1), -2);
        Edge.says(Edge.TERMS, "HEIGHT of x as a fraction in lowest terms, u by v, v above 0: the greater one of u without its sign and v.");
        CurvePoints below = Texts.on("curve 0 -2 within 10 3;");
        // x -8 by 9 has the HEIGHT 9, that of 0 is 1.
        Edge.due("up to 8, not -8 by 9", below.upTo(8), 5);
        Edge.due("up to 9", below.upTo(9), 9);
        Edge.due("up to 1, 0 and -1", below.upTo(1), 3);
    }

    private static void bits() {
        Edge.says(24, "BITS of a POINT's x (0 of ZERO). -2.");
        int[] want = {1, 1, 1, 2, 2, 4, 4};
        for (int i = 0; i < 7; i++) {
            int asked = i;
            Edge.stays("bits " + i, x -> x.bits(asked), want[i]);
        }
        Edge.stays("zero", x -> x.bits(Edge.ZERO), 0);
        for (int i : new int[] {-1, 7, 999, 1001, Edge.LEAST, Edge.MOST}) Edge.stays("bits " + i, x -> x.bits(i), -2);
        CurvePoints wide = Texts.on("curve -45 -190 within 1000 6;");
        Edge.due("1000", wide.bits(5), 10);
        Edge.due("190", wide.bits(3), 8);
        CurvePoints small = Texts.on("curve 0 -25 within 100 2;");
        Edge.due("-5", small.bits(0), 3);
        Edge.due("-4", small.bits(1), 3);
        CurvePoints four = Texts.on("curve -29 101;");
        Edge.due("4", four.bits(1), 3);
        Edge.due("1 by 9", four.bits(four.at(1, 3, 1)), 4);
        CurvePoints three = Texts.on("curve -14 81;");
        Edge.due("3", three.bits(1), 2);
    }

    private static void part(String curve, int m, int want) {
        CurvePoints x = Texts.on("curve " + curve + ";");
        int i = x.at(m, 1, 0);
        Edge.due("(" + m + ", 0) on " + curve, i < 0 ? i : x.part(i), want);
    }

    private static void parts() {
        Edge.says(41, "The part of the curve on which a POINT lies: of two 0 that without an end, 1 the closed one; 0, if there is one alone");
        // The three x where the curve meets y 0: the first two belong to the closed part.
        int[][] roots = {{0, -1, -1, 0, 1}, {3, 2, -2, -1, 0}, {-3, 2, 0, 1, 2}, {-59, -60, -1, 0, 60}, {59, -60, -60, 0, 1}, {-21, 20, 0, 1, 20}, {21, 20, -20, -1, 0}, {-22, 120, 0, 10, 12}, {22, 120, -12, -10, 0}};
        for (int[] row : roots) {
            String curve = row[0] + " " + row[1];
            part(curve, row[2], 1);
            part(curve, row[3], 1);
            part(curve, row[4], 0);
        }
        int[] want = {1, 1, 1, 0, 0, 0, 0};
        for (int i = 0; i < 7; i++) {
            int asked = i;
            Edge.stays("part " + i, x -> x.part(asked), want[i]);
        }
        // a a - 4 b is -3, -4, -199: below 0.
        for (String curve : new String[] {"1 1", "-1 1", "0 1", "2 2", "-2 2", "1 50", "-60 1"}) {
            CurvePoints x = Texts.on("curve " + curve + ";");
            int closed = 0;
            for (int i = 0; i < x.count(4); i++) closed += x.part(i);
            Edge.due(curve, closed, curve.equals("-60 1") ? x.between(-9999, 1, 1) : 0);
        }
        CurvePoints halves = Texts.on("curve -5 4 within 100 6;");
        for (int i = 0; i < halves.count(4); i++) {
            long square = halves.point(i, 2) * halves.point(i, 2);
            Edge.due("of 0 1 4, " + i, halves.part(i), halves.point(i, 0) <= square ? 1 : 0);
        }
        CurvePoints thin = Texts.on("curve -60 88 within 1000 6;");
        Edge.due("49 by 36", thin.part(thin.at(49, 6, 1)), 1);
        CurvePoints thinner = Texts.on("curve -60 123 within 1000 6;");
        Edge.due("49 by 25", thinner.part(thinner.at(49, 5, -1)), 1);
        // Near the closed part's end, e above 1: 33 by 4 is below 16 - root of 58, 169 by 36 below 23 - root of 335.
        int[][] near = {{-32, 198, 33, 2}, {-34, 192, 64, 3}, {-39, 172, 81, 4}, {-41, 185, 121, 5}, {-46, 194, 169, 6}};
        for (int[] row : near) {
            CurvePoints x = Texts.on("curve " + row[0] + " " + row[1] + " within 1000 6;");
            String what = row[2] + " by " + row[3] * row[3] + " on " + row[0] + " " + row[1];
            for (int sign = -1; sign <= 1; sign += 2) Edge.due(what, x.part(x.at(row[2], row[3], sign)), 1);
            for (int i = 0; i < x.count(4); i++) {
                double place = x.point(i, 0) / (double) (x.point(i, 2) * x.point(i, 2));
                Edge.due(what + ", " + i, x.part(i), place < -row[0] / 2.0 ? 1 : 0);
            }
        }
        CurvePoints ones = Texts.on("curve 1 -1;");
        Edge.due("(1, 1), behind the end of the closed one", ones.part(ones.at(1, 1, 1)), 0);
        Edge.due("(-1, 1)", ones.part(ones.at(-1, 1, 1)), 1);
        Edge.says(41, "-2.");
        Edge.stays("zero", x -> x.part(Edge.ZERO), 0);
        Edge.due("zero, one part alone", Texts.on("curve 1 1;").part(Edge.ZERO), 0);
        for (int i : new int[] {-1, 7, 999, 1001, Edge.LEAST, Edge.MOST}) Edge.stays("part " + i, x -> x.part(i), -2);
        Edge.due("no curve", new CurvePoints().part(0), -2);
    }

    private static void between() {
        Edge.says(47, "How many POINTS of the LIST have an x from u by w to v by w (u, v -9999 .. 9999, w 1 .. 99). -2.");
        int[][] rows = {
            {-9999, 9999, 1, 7}, {-9999, 9999, 99, 7}, {-1, 2, 1, 5}, {-1, 1, 1, 3}, {0, 2, 1, 3}, {0, 1, 1, 1}, {-1, -1, 1, 2}, {2, 2, 1, 2},
            {9, 9, 4, 2}, {10, 9999, 4, 0}, {8, 9, 4, 4}, {9, 10, 4, 2}, {8, 8, 4, 2}, {223, 9999, 99, 0}, {222, 9999, 99, 2}, {222, 223, 99, 2},
            {-9999, -99, 99, 2}, {-9999, -100, 99, 0}, {-99, -99, 99, 2}, {2, -1, 1, 0}, {1, 0, 1, 0},
            {-10000, 2, 1, -2}, {10000, 2, 1, -2}, {0, 10000, 1, -2}, {0, -10000, 1, -2}, {0, 2, 0, -2}, {0, 2, -1, -2}, {0, 2, 100, -2},
            {Edge.LEAST, 2, 1, -2}, {0, Edge.MOST, 1, -2}, {0, 2, Edge.LEAST, -2}, {0, 2, Edge.MOST, -2}
        };
        for (int[] row : rows) Edge.stays("between " + row[0] + " " + row[1] + " " + row[2], x -> x.between(row[0], row[1], row[2]), row[3]);
        // x 101 is 9999 by 99, x 909 is 9999 by 11.
        CurvePoints first = Texts.on("curve 0 -101 within 1000 1;");
        Edge.due("101 and 9999 by 99", first.between(9999, 9999, 99), 2);
        Edge.due("101 and 9998 by 99", first.between(-9999, 9998, 99), 3);
        CurvePoints second = Texts.on("curve -29 101 within 1000 1;");
        Edge.due("909 and 9999 by 11", second.between(9999, 9999, 11), 2);
        Edge.due("909 and 9998 by 11", second.between(0, 9998, 11), 5);
        Edge.due("no curve", new CurvePoints().between(0, 1, 1), -2);
    }

    private static void nearest() {
        Edge.says(48, "The POINT of the LIST whose x is nearest to u by w (of like ones the first).");
        int[][] rows = {
            {-9999, 1, 0}, {9999, 1, 5}, {9999, 99, 5}, {-9999, 99, 0}, {-1, 1, 0}, {0, 1, 2}, {2, 1, 3}, {9, 4, 5}, {-1, 2, 0}, {-49, 99, 2}, {-50, 99, 0},
            {1, 1, 2}, {98, 99, 2}, {50, 49, 3}, {17, 8, 3}, {53, 25, 3}, {54, 25, 5}
        };
        for (int[] row : rows) Edge.stays("nearest " + row[0] + " " + row[1], x -> x.nearest(row[0], row[1]), row[2]);
        Edge.due("a later one that is nearer", Texts.on("curve -45 -190 within 1000 6;").nearest(9999, 99), 7);
        Edge.says(48, "NONE: the LIST has none; -2.");
        Edge.due("(0, 0) is in each LIST", Texts.on("curve 3 3 within 1 1;").nearest(9999, 1), 0);
        int[][] refused = {{10000, 1}, {-10000, 1}, {0, 0}, {0, -1}, {0, 100}, {Edge.LEAST, 1}, {Edge.MOST, 1}, {0, Edge.LEAST}, {0, Edge.MOST}};
        for (int[] row : refused) Edge.stays("nearest " + row[0] + " " + row[1], x -> x.nearest(row[0], row[1]), -2);
        Edge.due("no curve", new CurvePoints().nearest(0, 1), -2);
    }

    private static void sorts() {
        Edge.says(63, "How many POINTS of the LIST have e (1 .. 6) (what 0), have a whole root of m without its sign (1: e is not asked). -2.");
        int[][] rows = {
            {1, 0, 5}, {2, 0, 2}, {3, 0, 0}, {6, 0, 0}, {0, 0, -2}, {-1, 0, -2}, {7, 0, -2}, {Edge.LEAST, 0, -2}, {Edge.MOST, 0, -2},
            {1, 1, 5}, {0, 1, 5}, {7, 1, 5}, {Edge.LEAST, 1, 5}, {Edge.MOST, 1, 5}, {1, -1, -2}, {1, 2, -2}, {1, Edge.LEAST, -2}, {1, Edge.MOST, -2}
        };
        for (int[] row : rows) Edge.stays("sorts " + row[0] + " " + row[1], x -> x.sorts(row[0], row[1]), row[2]);
        CurvePoints deep = Texts.on("curve -5 104 within 1000 6;");
        int[] byE = new int[7];
        for (int i = 0; i < deep.count(4); i++) byE[(int) deep.point(i, 2)]++;
        for (int e = 1; e <= 6; e++) Edge.due("e " + e, deep.sorts(e, 0), byE[e]);
        Edge.due("some with 6", byE[6] > 0 ? 1 : 0, 1);
        Edge.due("no curve", new CurvePoints().sorts(1, 1), -2);
    }
}
