/** The boundary sentences of SUMS, TIMES and ORDERS, and of what is MADE BY some POINTS. */
final class SumEdges {
    private static final int[] NO_POINTS = {-1, 7, 8, 120, 999, 1001, Edge.LEAST, Edge.MOST};
    private static final int[] NO_WHATS = {-1, 2, Edge.LEAST, Edge.MOST};

    private SumEdges() {
    }

    static void run() {
        sums();
        of();
        times();
        orders();
        rounds();
        parallels();
        made();
        makers();
        related();
        solves();
        halves();
        straights();
        lines();
        walks();
        deeps();
    }

    /** (0, 0) (3, -12) (3, 12) (9, -18) (9, 18) (27, -108) (27, 108), ORDERS 2 8 8 4 4 8 8. */
    private static CurvePoints eight() {
        return Texts.on("curve -14 81 within 200 2;");
    }

    /** The same without those of x 27: (3, 12) three times is FAR. */
    private static CurvePoints cutEight() {
        return Texts.on("curve -14 81 within 26 2;");
    }

    /** (0, 0) (4, -8) (4, 8) (12, -24) (12, 24), ORDERS 2 3 3 6 6. */
    private static CurvePoints six() {
        return Texts.on("curve -12 48;");
    }

    private static CurvePoints five() {
        return Texts.on("curve 0 -25 within 100 2;");
    }

    private static void sums() {
        Edge.says(Edge.TERMS, "SUM of two POINTS: ZERO and P: P. P and its TURNED one (n the other sign): ZERO.");
        for (int i = 0; i < 7; i++) {
            int asked = i;
            Edge.stays("zero and " + i, x -> x.sum(Edge.ZERO, asked), i);
            Edge.stays(i + " and zero", x -> x.sum(asked, Edge.ZERO), i);
            Edge.stays(i + " and turned", x -> x.sum(asked, x.turned(asked)), Edge.ZERO);
        }
        Edge.stays("zero and zero", x -> x.sum(Edge.ZERO, Edge.ZERO), Edge.ZERO);
        Edge.stays("(0, 0) and itself", x -> x.sum(2, 2), Edge.ZERO);
        Edge.due("(-5, 0) and itself", five().sum(0, 0), Edge.ZERO);
        Edge.due("(-5, 0) and (5, 0)", five().sum(0, 4), 3);
        Edge.says(Edge.TERMS, "FAR: it is not in the LIST.");
        Edge.stays("(-1, 1) twice", x -> x.sum(1, 1), 5);
        Edge.due("m 9 is M", Texts.on("curve 0 -2 within 9 2;").sum(1, 1), 5);
        Edge.due("m 9 is above M", Texts.on("curve 0 -2 within 8 2;").sum(1, 1), Edge.FAR);
        Edge.due("e 2 is above E", Texts.on("curve 0 -2 within 10 1;").sum(1, 1), Edge.FAR);
        Edge.due("m -8, e 3", Texts.on("curve 0 -2 within 9 3;").sum(5, 2), 7);
        Edge.due("e 3 is above E", Texts.on("curve 0 -2 within 9 2;").sum(5, 2), Edge.FAR);
        Edge.due("m -5 is -M", Texts.on("curve 0 -25 within 5 1;").sum(2, 3), Edge.FAR);
        Edge.due("(0, 0) and (5, 0)", Texts.on("curve 0 -25 within 5 1;").sum(3, 4), 0);
        Edge.says(10, "SUM. FAR; -2.");
        for (int i : NO_POINTS) {
            Edge.stays("sum " + i + " 0", x -> x.sum(i, 0), -2);
            Edge.stays("sum 0 " + i, x -> x.sum(0, i), -2);
            Edge.stays("sum zero " + i, x -> x.sum(Edge.ZERO, i), -2);
        }
        Edge.due("no curve", new CurvePoints().sum(Edge.ZERO, Edge.ZERO), -2);
    }

    private static void of() {
        Edge.says(11, "Of x of the SUM of two POINTS of the LIST (how 0), of the first one and the other one TURNED (1), what 0: u, 1: v, 2: HEIGHT.");
        // (-1, 1) and (9/4, -21/8) go to -1/169 and, turned, to -1.
        int[][] rows = {{1, 5, 0, 0, -1}, {1, 5, 0, 1, 169}, {1, 5, 0, 2, 169}, {1, 5, 1, 0, -1}, {1, 5, 1, 1, 1}, {1, 5, 1, 2, 1}, {1, 2, 0, 0, 2}, {1, 2, 1, 2, 2}, {1, 1, 0, 2, 9}};
        for (int[] row : rows) Edge.stays("of " + row[0] + " " + row[1] + " " + row[2] + " " + row[3], x -> x.of(row[0], row[1], row[2], row[3]), row[4]);
        CurvePoints halves = five();
        Edge.due("u 0 of (-5, 0) and (5, 0)", halves.of(0, 4, 0, 0), 0);
        Edge.due("v 1 of it", halves.of(0, 4, 0, 1), 1);
        Edge.due("HEIGHT 1 of it", halves.of(0, 4, 1, 2), 1);
        Edge.says(11, "NO_SUCH (it is ZERO, too).");
        for (int what = 0; what < 3; what++) {
            int asked = what;
            Edge.stays("0 and 1", x -> x.of(0, 1, 0, asked), Edge.NO_SUCH);
            Edge.stays("0 less 0", x -> x.of(0, 0, 1, asked), Edge.NO_SUCH);
            Edge.stays("(0, 0) twice", x -> x.of(2, 2, 0, asked), Edge.NO_SUCH);
            Edge.stays("(0, 0) less it", x -> x.of(2, 2, 1, asked), Edge.NO_SUCH);
            Edge.stays("zero first", x -> x.of(Edge.ZERO, 1, 0, asked), Edge.NO_SUCH);
            Edge.stays("zero behind", x -> x.of(1, Edge.ZERO, 1, asked), Edge.NO_SUCH);
            for (int i : NO_POINTS) {
                Edge.stays("first " + i, x -> x.of(i, 1, 0, asked), Edge.NO_SUCH);
                Edge.stays("other " + i, x -> x.of(1, i, 1, asked), Edge.NO_SUCH);
            }
            for (int how : NO_WHATS) Edge.stays("how " + how, x -> x.of(1, 5, how, asked), Edge.NO_SUCH);
        }
        for (int what : new int[] {-1, 3, Edge.LEAST, Edge.MOST}) Edge.stays("what " + what, x -> x.of(1, 5, 0, what), Edge.NO_SUCH);
        Edge.due("no curve", new CurvePoints().of(0, 0, 0, 0), Edge.NO_SUCH);
    }

    private static void times() {
        Edge.says(Edge.TERMS, "TIMES: k times P is ZERO by 0");
        Edge.stays("0 times", x -> x.times(5, 0), Edge.ZERO);
        Edge.stays("0 times zero", x -> x.times(Edge.ZERO, 0), Edge.ZERO);
        Edge.says(Edge.TERMS, "(k - 1 times P) and P by k above 0 (FAR, if that ahead is FAR); below 0 the TURNED one of that by -k");
        int[] around = {Edge.ZERO, 2, 3, 6, 0, 5, 4, 1};
        for (int k = -20; k <= 20; k++) Edge.due("(3, 12) " + k + " times", eight().times(2, k), around[Math.floorMod(k, 8)]);
        // Here 4, 5, 7, 8 and 9 times are in the LIST again, but 3 times ahead of them is not.
        CurvePoints cut = cutEight();
        for (int k = -20; k <= 20; k++) Edge.due("cut, " + k + " times", cut.times(2, k), Math.abs(k) <= 2 ? around[Math.floorMod(k, 8)] : Edge.FAR);
        Edge.says(12, "k (-20 .. 20) TIMES a POINT. FAR; -2.");
        Edge.stays("20 times", x -> x.times(2, 20), Edge.ZERO);
        Edge.stays("-20 times", x -> x.times(2, -20), Edge.ZERO);
        Edge.stays("19 times", x -> x.times(2, 19), 2);
        Edge.stays("zero 20 times", x -> x.times(Edge.ZERO, 20), Edge.ZERO);
        Edge.stays("zero -20 times", x -> x.times(Edge.ZERO, -20), Edge.ZERO);
        Edge.stays("far 20 times", x -> x.times(1, 20), Edge.FAR);
        for (int k : new int[] {21, -21, Edge.LEAST, Edge.MOST}) {
            Edge.stays(k + " times", x -> x.times(2, k), -2);
            Edge.stays(k + " times zero", x -> x.times(Edge.ZERO, k), -2);
            // -2 is ahead of FAR.
            Edge.stays(k + " times a far one", x -> x.times(1, k), -2);
        }
        for (int i : NO_POINTS) {
            Edge.stays("no such " + i, x -> x.times(i, 1), -2);
            Edge.stays("0 times no such " + i, x -> x.times(i, 0), -2);
        }
        Edge.due("no curve", new CurvePoints().times(Edge.ZERO, 0), -2);
    }

    private static void orders() {
        Edge.says(Edge.TERMS, "ORDER of a POINT: the least k 1 .. 12 by which k times it is ZERO; 0: none (one ahead of it is FAR, too)");
        int[] eights = {2, 8, 8, 4, 4, 8, 8};
        int[] cuts = {2, 0, 0, 4, 4};
        int[] sixes = {2, 3, 3, 6, 6};
        CurvePoints x = eight();
        CurvePoints cut = cutEight();
        CurvePoints y = six();
        for (int i = 0; i < eights.length; i++) Edge.due("order " + i, x.order(i), eights[i]);
        for (int i = 0; i < cuts.length; i++) Edge.due("cut, order " + i, cut.order(i), cuts[i]);
        for (int i = 0; i < sixes.length; i++) Edge.due("six, order " + i, y.order(i), sixes[i]);
        Edge.due("cut, as the LIST was ahead", x.within(26, 2), 5);
        Edge.due("cut then", x.order(1), 0);
        x.undo();
        Edge.due("taken back", x.order(1), 8);
        Edge.stays("none", z -> z.order(1), 0);
        Edge.says(13, "ORDER (1 of ZERO). -2.");
        Edge.stays("zero", z -> z.order(Edge.ZERO), 1);
        for (int i : NO_POINTS) Edge.stays("order " + i, z -> z.order(i), -2);
        Edge.due("no curve", new CurvePoints().order(Edge.ZERO), -2);
    }

    private static void rounds() {
        Edge.says(14, "Of those that are ROUND (ZERO, too), what 0: how many, 1: the greatest ORDER, 2: how many have ORDER 2. -2.");
        String[] curves = {"0 -2 within 10 2", "-14 81 within 200 2", "-14 81 within 26 2", "-12 48", "0 -25", "22 -135", "3 3 within 1 1", "0 -1 within 1 1", "0 4"};
        int[][] want = {{2, 2, 1}, {8, 8, 1}, {4, 4, 1}, {6, 6, 1}, {4, 2, 3}, {12, 6, 3}, {2, 2, 1}, {4, 2, 3}, {4, 4, 1}};
        for (int k = 0; k < curves.length; k++) {
            CurvePoints x = Texts.on("curve " + curves[k] + ";");
            for (int what = 0; what < 3; what++) Edge.due(curves[k] + ", what " + what, x.round(what), want[k][what]);
        }
        for (int what : new int[] {-1, 3, Edge.LEAST, Edge.MOST}) Edge.stays("what " + what, x -> x.round(what), -2);
        Edge.due("no curve", new CurvePoints().round(0), -2);
    }

    private static void parallels() {
        Edge.says(25, "BITS of SUM and of the first with the other one TURNED, less twice BITS of both (of ZERO 0). NO_SUCH (ZERO given, too).");
        int[][] rows = {{1, 1, 4 - 4}, {0, 1, 4 - 4}, {2, 2, -4}, {1, 2, 2 + 2 - 4}, {5, 5, 14 - 16}, {5, 6, 14 - 16}, {1, 5, 8 + 1 - 10}, {0, 5, 8 + 1 - 10}};
        for (int[] row : rows) Edge.stays("parallel " + row[0] + " " + row[1], x -> x.parallel(row[0], row[1]), row[2]);
        for (int i : NO_POINTS) {
            Edge.stays("parallel " + i + " 1", x -> x.parallel(i, 1), Edge.NO_SUCH);
            Edge.stays("parallel 1 " + i, x -> x.parallel(1, i), Edge.NO_SUCH);
        }
        Edge.stays("zero first", x -> x.parallel(Edge.ZERO, 1), Edge.NO_SUCH);
        Edge.stays("zero behind", x -> x.parallel(1, Edge.ZERO), Edge.NO_SUCH);
        Edge.due("no curve", new CurvePoints().parallel(0, 0), Edge.NO_SUCH);
    }

    private static void made() {
        Edge.says(26, "MADE BY two POINTS (both may be one): how many (ZERO, too). -2.");
        // By (-1, 1): itself, turned, 2 times, turned, ZERO; by (0, 0) all; by (9/4, ..) no half of it.
        int[][] rows = {
            {Edge.ZERO, Edge.ZERO, 1}, {2, Edge.ZERO, 2}, {2, 2, 2}, {1, Edge.ZERO, 5}, {Edge.ZERO, 1, 5}, {1, 1, 5}, {0, 1, 5}, {0, 5, 5}, {5, 5, 3}, {5, 6, 3}, {1, 2, 8}, {2, 4, 8}, {3, 1, 8}
        };
        for (int[] row : rows) Edge.stays("made " + row[0] + " " + row[1], x -> x.made(row[0], row[1]), row[2]);
        for (int i : NO_POINTS) {
            Edge.stays("made " + i + " 1", x -> x.made(i, 1), -2);
            Edge.stays("made 1 " + i, x -> x.made(1, i), -2);
            Edge.stays("made zero " + i, x -> x.made(Edge.ZERO, i), -2);
        }
        CurvePoints x = eight();
        Edge.due("by one of ORDER 8", x.made(1, 1), 8);
        Edge.due("by one of ORDER 4", x.made(3, 3), 4);
        Edge.due("by (0, 0)", x.made(0, 0), 2);
        Edge.due("behind it again", x.made(1, Edge.ZERO), 8);
        Edge.says(Edge.TERMS, "as long as there are any, SUMS of one of them and one of those told, or that TURNED (in the LIST or not), that are in the LIST.");
        // Of (3, 12) one and two times alone are there, and three times leads out; (0, 0), four times, is not met.
        Edge.due("cut, by one of ORDER 8", cutEight().made(2, 2), 5);
        Edge.due("cut, with (0, 0)", cutEight().made(2, 0), 6);
        Edge.due("no curve", new CurvePoints().made(Edge.ZERO, Edge.ZERO), -2);
    }

    private static void makers() {
        Edge.says(27, "The k-th of MAKERS (k NONE: how many there are). NONE: not so many; -2 (k below NONE, too).");
        int[][] rows = {{-1, 2}, {0, 0}, {1, 2}, {2, Edge.NONE}, {7, Edge.NONE}, {1000, Edge.NONE}, {Edge.MOST, Edge.NONE}, {-2, -2}, {Edge.LEAST, -2}};
        for (int[] row : rows) Edge.stays("makers " + row[0], x -> x.makers(row[0]), row[1]);
        CurvePoints one = Texts.on("curve 3 3 within 1 1;");
        Edge.due("one alone", one.makers(Edge.NONE), 1);
        Edge.due("(0, 0)", one.makers(0), 0);
        Edge.due("no other", one.makers(1), Edge.NONE);
        CurvePoints most = Texts.on("curve 26 -194 within 1000 6;");
        Edge.due("the most", most.makers(Edge.NONE), 5);
        Edge.due("the fifth", most.makers(4) >= 4 ? 1 : 0, 1);
        Edge.due("no sixth", most.makers(5), Edge.NONE);
        CurvePoints x = Edge.busy();
        x.makers(0);
        x.within(1, 1);
        Edge.due("of another LIST", x.makers(Edge.NONE), 2);
        x.within(8, 1);
        Edge.due("of a longer one", x.makers(1), 2);
        Edge.due("no curve", new CurvePoints().makers(Edge.NONE), -2);
        Edge.due("no curve, k below NONE", new CurvePoints().makers(-2), -2);
    }

    private static void relates(CurvePoints x, int i, int j, long s, long t) {
        Edge.due("related " + i + " " + j + ", s", x.related(i, j, 0), s);
        Edge.due("related " + i + " " + j + ", t", x.related(i, j, 1), t);
    }

    private static void related() {
        Edge.says(28, "Whole numbers s, t, each -5 .. 5, not both 0");
        CurvePoints x = Texts.on("curve 49 175;");
        // (-35, 105) and its multiples up to 6 are all in the LIST.
        for (int k = 1; k <= 6; k++) {
            int far = x.times(3, k);
            if (k == 1) relates(x, 3, far, -1, -1 + 2);
            else if (k <= 5) relates(x, 3, far, -k, 1);
            else relates(x, 3, far, Edge.NO_SUCH, Edge.NO_SUCH);
            if (k >= 2 && k <= 5) relates(x, far, 3, -1, k);
            if (k == 6) relates(x, far, 3, Edge.NO_SUCH, Edge.NO_SUCH);
            if (k >= 2 && k <= 5) relates(x, x.turned(far), 3, -1, -k);
        }
        Edge.says(28, "by which s TIMES the one and t TIMES the other one are ROUND together (their SUM; none of it FAR)");
        CurvePoints y = Edge.busy();
        relates(y, 1, 5, -2, 1);
        relates(y, 1, 6, -2, -1);
        relates(y, 5, 1, -1, 2);
        // By E 1 two times (7, 21) is FAR, and so is three times it, though that stands in the LIST.
        relates(Texts.on("curve -26 196 within 200 4;"), 1, 7, -3, 1);
        relates(Texts.on("curve -26 196 within 200 1;"), 1, 7, Edge.NO_SUCH, Edge.NO_SUCH);
        // (3, 12) has no ORDER, as three times it is FAR; two times it has one.
        relates(cutEight(), 1, 1, -2, 0);
        relates(cutEight(), 2, 3, 0, -1);
        Edge.says(28, "those by which s and t without signs together are least, then s, then t are least: what 0: s, 1: t.");
        relates(y, Edge.ZERO, Edge.ZERO, -1, 0);
        relates(y, Edge.ZERO, 1, -1, 0);
        relates(y, 1, Edge.ZERO, 0, -1);
        relates(y, 2, 2, -1, 0);
        relates(y, 1, 2, 0, -1);
        relates(y, 2, 1, -1, 0);
        relates(y, 1, 1, -1, 1);
        relates(y, 0, 1, -1, -1);
        relates(y, 1, 4, -1, 1);
        relates(y, 1, 3, -1, -1);
        Edge.says(28, "NO_SUCH: there are none (such).");
        CurvePoints free = Texts.on("curve -60 -196;");
        relates(free, 0, 5, Edge.NO_SUCH, Edge.NO_SUCH);
        for (int i : NO_POINTS) {
            Edge.stays("related " + i + " 1", z -> z.related(i, 1, 0), Edge.NO_SUCH);
            Edge.stays("related 1 " + i, z -> z.related(1, i, 1), Edge.NO_SUCH);
        }
        for (int what : NO_WHATS) Edge.stays("what " + what, z -> z.related(1, 5, what), Edge.NO_SUCH);
        Edge.due("no curve", new CurvePoints().related(Edge.ZERO, Edge.ZERO, 0), Edge.NO_SUCH);
    }

    private static void solved(CurvePoints x, int i, int j, int k, long s, long t) {
        Edge.due("solves " + i + " " + j + " " + k + ", s", x.solves(i, j, k, 0), s);
        Edge.due("solves " + i + " " + j + " " + k + ", t", x.solves(i, j, k, 1), t);
    }

    private static void solves() {
        Edge.says(55, "Whole numbers s, t, each -5 .. 5, by which s TIMES the one and t TIMES the other one have a third POINT as their SUM (none of it FAR)");
        CurvePoints x = Texts.on("curve 49 175;");
        for (int k = -6; k <= 6; k++) {
            int goal = x.times(3, k);
            boolean near = Math.abs(k) <= 5;
            solved(x, 3, Edge.ZERO, goal, near ? k : Edge.NO_SUCH, near ? 0 : Edge.NO_SUCH);
            solved(x, Edge.ZERO, 3, goal, near ? 0 : Edge.NO_SUCH, near ? k : Edge.NO_SUCH);
        }
        CurvePoints y = Edge.busy();
        CurvePoints wide = Texts.on("curve 49 175 within 1000 6;");
        // 8 times: 3 and 5 of one, -5 and -3 for the turned one.
        solved(wide, 2, 2, 25, 3, 5);
        solved(wide, 2, 2, 26, -5, -3);
        solved(y, 1, 5, 4, Edge.NO_SUCH, Edge.NO_SUCH);
        solved(y, 1, 2, 6, -2, 0);
        solved(Texts.on("curve -26 196 within 200 4;"), 1, Edge.ZERO, 7, 3, 0);
        solved(Texts.on("curve -26 196 within 200 1;"), 1, Edge.ZERO, 7, Edge.NO_SUCH, Edge.NO_SUCH);
        CurvePoints cut = cutEight();
        solved(cut, 1, 3, 0, 0, -2);
        // 4 times (3, 12) would be (0, 0), but 3 times is FAR.
        solved(cut, 2, Edge.ZERO, 0, Edge.NO_SUCH, Edge.NO_SUCH);
        Edge.says(55, "those by which s and t without signs together are least, then s, then t are least: what 0: s, 1: t.");
        solved(y, 1, 2, Edge.ZERO, 0, 0);
        solved(y, Edge.ZERO, Edge.ZERO, Edge.ZERO, 0, 0);
        solved(y, 1, 2, 4, 1, -1);
        solved(y, 2, 1, 4, -1, 1);
        solved(y, 2, 2, 2, -1, 0);
        solved(y, 1, 1, 5, 0, 2);
        solved(y, 1, 0, 5, 0, -2);
        solved(y, 1, 1, 1, 0, 1);
        solved(y, 0, 1, 1, -1, 0);
        Edge.says(55, "NO_SUCH: there are none (such).");
        solved(y, 2, 2, 1, Edge.NO_SUCH, Edge.NO_SUCH);
        solved(y, Edge.ZERO, Edge.ZERO, 2, Edge.NO_SUCH, Edge.NO_SUCH);
        for (int i : NO_POINTS) {
            Edge.stays("first " + i, z -> z.solves(i, 2, Edge.ZERO, 0), Edge.NO_SUCH);
            Edge.stays("other " + i, z -> z.solves(1, i, Edge.ZERO, 0), Edge.NO_SUCH);
            Edge.stays("third " + i, z -> z.solves(1, 2, i, 0), Edge.NO_SUCH);
        }
        for (int what : NO_WHATS) Edge.stays("what " + what, z -> z.solves(1, 2, Edge.ZERO, what), Edge.NO_SUCH);
        Edge.due("no curve", new CurvePoints().solves(Edge.ZERO, Edge.ZERO, Edge.ZERO, 0), Edge.NO_SUCH);
    }

    private static void halves() {
        Edge.says(38, "The k-th POINT of the LIST whose SUM with itself is a POINT. NONE: not so many; -2 (k below 0, too).");
        int[][] rows = {
            {5, 0, 1}, {5, 1, 4}, {5, 2, Edge.NONE}, {6, 0, 0}, {6, 1, 3}, {6, 2, Edge.NONE}, {1, 0, Edge.NONE}, {Edge.ZERO, 0, 2}, {Edge.ZERO, 1, Edge.NONE},
            {5, Edge.MOST, Edge.NONE}, {1, Edge.MOST, Edge.NONE}, {5, -1, -2}, {1, -1, -2}, {5, Edge.LEAST, -2}, {Edge.ZERO, -1, -2}
        };
        for (int[] row : rows) Edge.stays("half " + row[0] + " " + row[1], x -> x.half(row[0], row[1]), row[2]);
        for (int i : NO_POINTS) {
            Edge.stays("half " + i, x -> x.half(i, 0), -2);
            Edge.stays("half " + i + ", not so many", x -> x.half(i, 99), -2);
        }
        CurvePoints x = five();
        for (int k = 0; k < 3; k++) Edge.due("of zero, " + k, x.half(Edge.ZERO, k), new int[] {0, 3, 4}[k]);
        Edge.due("of zero, ZERO itself is not in the LIST", x.half(Edge.ZERO, 3), Edge.NONE);
        Edge.due("no curve", new CurvePoints().half(Edge.ZERO, 0), -2);
    }

    private static void straights() {
        Edge.says(39, "1 if the SUM of three POINTS is ZERO (that of two need not be in the LIST), else 0. -2.");
        int[][] rows = {
            {1, 2, 3, 1}, {3, 2, 1, 1}, {2, 1, 4, 0}, {1, 1, 6, 1}, {1, 1, 5, 0}, {6, 1, 1, 1}, {0, 1, Edge.ZERO, 1}, {2, 2, Edge.ZERO, 1}, {1, 1, Edge.ZERO, 0},
            {Edge.ZERO, Edge.ZERO, Edge.ZERO, 1}, {Edge.ZERO, Edge.ZERO, 2, 0}, {2, 2, 2, 0}, {5, 5, 5, 0}, {5, 5, 6, 0}, {5, 6, Edge.ZERO, 1}
        };
        for (int[] row : rows) Edge.stays("straight " + row[0] + " " + row[1] + " " + row[2], x -> x.straight(row[0], row[1], row[2]), row[3]);
        for (int i : NO_POINTS) {
            Edge.stays("first " + i, x -> x.straight(i, 0, 1), -2);
            Edge.stays("second " + i, x -> x.straight(0, i, 1), -2);
            Edge.stays("third " + i, x -> x.straight(0, 1, i), -2);
        }
        Edge.due("no curve", new CurvePoints().straight(Edge.ZERO, Edge.ZERO, Edge.ZERO), -2);
    }

    private static void lines() {
        Edge.says(40, "How many threes of POINTS of the LIST, all three unlike, there are whose SUM is ZERO. -2.");
        // (-1, ..) (0, 0) (2, ..), twice; one twice and its like, as (4, 8) (4, 8) (4, 8), is none.
        Edge.stays("two", CurvePoints::lines, 2);
        Edge.due("eight", eight().lines(), 4);
        Edge.due("six", six().lines(), 2);
        Edge.due("(-5, 0) (0, 0) (5, 0) alone", Texts.on("curve 0 -25 within 5 1;").lines(), 1);
        Edge.due("(-1, 0) (0, 0) (1, 0)", Texts.on("curve 0 -1;").lines(), 1);
        Edge.due("one POINT alone", Texts.on("curve 3 3 within 1 1;").lines(), 0);
        Edge.due("three POINTS", Texts.on("curve 0 -2 within 1 1;").lines(), 0);
        CurvePoints x = Edge.busy();
        x.lines();
        x.within(1, 1);
        Edge.due("of another LIST", x.lines(), 0);
        x.undo();
        Edge.due("taken back", x.lines(), 2);
        Edge.due("no curve", new CurvePoints().lines(), -2);
    }

    private static void walks() {
        Edge.says(46, "How many of 1 .. 20 TIMES a POINT, from 1 on, are neither FAR nor ZERO, till the first that is. -2.");
        int[] want = {2, 2, 1, 2, 2, 1, 1};
        for (int i = 0; i < 7; i++) {
            int asked = i;
            Edge.stays("walk " + i, x -> x.walk(asked), want[i]);
        }
        Edge.stays("zero", x -> x.walk(Edge.ZERO), 0);
        for (int i : NO_POINTS) Edge.stays("walk " + i, x -> x.walk(i), -2);
        Edge.due("till ZERO", eight().walk(1), 7);
        Edge.due("till FAR", cutEight().walk(1), 2);
        Edge.due("till ZERO of 4", cutEight().walk(3), 3);
        Edge.due("6 times are in the LIST", Texts.on("curve 49 175;").walk(3), 6);
        Edge.due("no curve", new CurvePoints().walk(Edge.ZERO), -2);
    }

    private static void deeps() {
        Edge.says(56, "The most POINTS one behind the other, from a POINT on (that one counted), each next one half of the one ahead (a POINT of the LIST whose SUM with itself that is), none twice. -2 (ZERO, too).");
        int[] want = {1, 1, 1, 1, 1, 2, 2};
        for (int i = 0; i < 7; i++) {
            int asked = i;
            Edge.stays("deep " + i, x -> x.deep(asked), want[i]);
        }
        Edge.stays("zero", x -> x.deep(Edge.ZERO), -2);
        for (int i : NO_POINTS) Edge.stays("deep " + i, x -> x.deep(i), -2);
        CurvePoints x = six();
        // (4, -8) is half of (4, 8) and (4, 8) of (4, -8) again: that one is not counted twice.
        Edge.due("(4, -8), (4, 8), (12, ..)", x.deep(1), 3);
        Edge.due("(12, 24) has no half", x.deep(4), 1);
        Edge.due("(0, 0), (9, 18), (3, ..)", eight().deep(0), 3);
        Edge.due("(9, 18), (3, ..)", eight().deep(4), 2);
        Edge.due("cut, the same", cutEight().deep(0), 3);
        Edge.due("four", Texts.on("curve 49 175 within 1000 6;").deep(25), 4);
        CurvePoints ones = Texts.on("curve 1 -1;");
        Edge.due("(1, -1), .., (-1, -1), the first of the LIST", ones.deep(3), 3);
        Edge.due("(1, 1), .., (-1, 1)", ones.deep(4), 3);
        Edge.due("no curve", new CurvePoints().deep(0), -2);
    }
}
