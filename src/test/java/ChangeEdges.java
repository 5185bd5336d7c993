/** The boundary sentences of the calls by which the CURVE becomes another one, and of undo(). */
final class ChangeEdges {
    private ChangeEdges() {
    }

    static void run() {
        beside();
        twists();
        within();
        undoLatest();
        undoTen();
        undoRefused();
    }

    private static CurvePoints narrow(int a, int b) {
        CurvePoints x = Texts.on("curve " + a + " " + b + " within 7 2;");
        x.tell(0);
        Texts.put(x, "curve 5 6 within 30 3;");
        return x;
    }

    /** The call is taken: how many POINTS, and then a, b, the M and E that were there. */
    private static void becomes(int a, int b, Edge.Call call, int newA, int newB) {
        CurvePoints x = narrow(a, b);
        long many = call.on(x);
        String what = a + " " + b;
        Edge.due(what, many, Texts.on("curve " + newA + " " + newB + " within 7 2;").count(4));
        int[] want = {newA, newB, 7, 2, (int) many, 22};
        for (int k = 0; k < want.length; k++) Edge.due(what + " count " + k, x.count(k), want[k]);
        Edge.dueText(what + ", out", Texts.out(x), Texts.out(narrow(a, b)));
        Edge.due(what + ", taken back", x.undo(), 0);
        Edge.dueText(what + ", all as ahead", Edge.seen(x), Edge.seen(narrow(a, b)));
    }

    private static void refused(int a, int b, Edge.Call call, int want) {
        Edge.stays(a + " " + b, () -> narrow(a, b), call, want);
    }

    private static void beside() {
        Edge.says(33, "The CURVE becomes the one BESIDE (M, E stay): POINTS of its LIST.");
        int[][] taken = {{30, 200}, {-30, 200}, {30, 175}, {0, 50}, {0, -50}, {1, 50}, {14, -1}, {2, -49}, {1, 1}};
        for (int[] row : taken) becomes(row[0], row[1], CurvePoints::goesBeside, -2 * row[0], row[0] * row[0] - 4 * row[1]);
        Edge.says(33, "-5: a, b would be out of their bounds; -2.");
        // a becomes 62, b 204 or -204, 201, -203.
        for (int[] row : new int[][] {{31, 200}, {-31, 200}, {60, 1}, {0, -51}, {0, 51}, {1, -50}, {1, 51}, {30, 174}, {60, -200}, {-60, 200}}) {
            refused(row[0], row[1], CurvePoints::goesBeside, -5);
        }
        Edge.due("no curve", new CurvePoints().goesBeside(), -2);
    }

    private static void twists() {
        Edge.says(34, "The CURVE is turned by d (-9 .. 9, not 0): a d, b d d: POINTS of its LIST.");
        int[][] taken = {
            {0, 1, 9}, {0, 1, -9}, {0, -2, 9}, {0, -2, -9}, {6, 2, 9}, {-6, 2, -9}, {5, 3, 1}, {5, 3, -1}, {60, 200, 1}, {60, 200, -1}, {-60, -200, -1},
            {30, 50, 2}, {30, 50, -2}, {-30, -50, 2}, {20, 22, 3}, {20, -22, -3}, {12, 8, 5}, {-12, -8, 5}, {15, 12, 4}, {10, 5, 6}, {8, 4, 7}, {7, 3, 8}
        };
        for (int[] row : taken) becomes(row[0], row[1], x -> x.twists(row[2]), row[0] * row[2], row[1] * row[2] * row[2]);
        Edge.says(34, "-5, -2 likewise.");
        int[][] far = {
            {31, 1, 2}, {31, 1, -2}, {-31, 1, 2}, {21, 1, 3}, {16, 1, 4}, {13, 1, 5}, {11, 1, 6}, {9, 1, 7}, {8, 1, 8}, {7, 1, 9}, {-7, 1, 9}, {7, 1, -9},
            {1, 51, 2}, {1, -51, 2}, {1, 51, -2}, {1, 23, 3}, {1, 13, 4}, {1, 9, 5}, {1, -9, 5}, {1, 6, 6}, {1, 5, 7}, {1, 4, 8}, {1, 3, 9}, {60, 200, 9}, {-60, -200, -9}
        };
        for (int[] row : far) refused(row[0], row[1], x -> x.twists(row[2]), -5);
        for (int d : new int[] {0, 10, -10, 11, Edge.LEAST, Edge.MOST, 65536}) {
            refused(0, 1, x -> x.twists(d), -2);
            // -2 is ahead of others: a, b would be out of their bounds, too.
            refused(60, 200, x -> x.twists(d), -2);
        }
        Edge.due("no curve", new CurvePoints().twists(1), -2);
        Edge.due("no curve, no such number", new CurvePoints().twists(0), -2);
    }

    private static void within() {
        Edge.says(35, "M, E become others: POINTS of the LIST. -2.");
        for (int[] row : new int[][] {{1, 1}, {1000, 6}, {1, 6}, {1000, 1}, {10, 2}, {8, 2}, {9, 2}}) {
            CurvePoints x = Edge.busy();
            int many = x.within(row[0], row[1]);
            Edge.due("within " + row[0] + " " + row[1], many, Texts.on("curve 0 -2 within " + row[0] + " " + row[1] + ";").count(4));
            Edge.due("M", x.count(2), row[0]);
            Edge.due("E", x.count(3), row[1]);
            Edge.due("b stays", x.count(1), -2);
            Edge.due("taken back", x.undo(), 2);
            Edge.dueText("all as ahead", Edge.seen(x), Edge.seen(Edge.busy()));
        }
        int[][] refused = {
            {0, 2}, {-1, 2}, {1001, 2}, {10, 0}, {10, -1}, {10, 7}, {0, 0}, {1001, 7}, {Edge.LEAST, 2}, {Edge.MOST, 2}, {10, Edge.LEAST}, {10, Edge.MOST}
        };
        for (int[] row : refused) Edge.stays("within " + row[0] + " " + row[1], x -> x.within(row[0], row[1]), -2);
        Edge.due("no curve", new CurvePoints().within(1, 1), -2);
    }

    private static void undoLatest() {
        Edge.says(49, "The latest goesBeside(), twists(), within() that was not refused is taken back");
        CurvePoints x = Texts.on("curve 3 5 within 20 2;");
        x.twists(-1);
        x.goesBeside();
        x.within(30, 3);
        int[][] refusals = {{x.twists(0), -2}, {x.within(0, 1), -2}, {x.twists(9), -5}, {x.twists(9), -5}};
        for (int[] pair : refusals) Edge.due("refused", pair[0], pair[1]);
        int[][] back = {{2, 6, -11, 20, 2}, {1, -3, 5, 20, 2}, {0, 3, 5, 20, 2}};
        for (int[] row : back) {
            Edge.due("undo", x.undo(), row[0]);
            for (int what = 0; what < 4; what++) Edge.due("count " + what, x.count(what), row[1 + what]);
            Edge.due("POINTS", x.count(4), Texts.on("curve " + row[1] + " " + row[2] + " within " + row[3] + " " + row[4] + ";").count(4));
        }
        x.within(20, 2);
        Edge.due("one that changes nothing counts, too", x.undo(), 0);
        x.twists(1);
        Edge.due("by 1, too", x.undo(), 0);
        x.within(5, 1);
        x.undo();
        x.within(6, 1);
        Edge.due("taken back is gone", x.undo(), 0);
        Edge.due("M", x.count(2), 20);
        Edge.says(49, "how many can be. NONE: none");
        Edge.stays("none", () -> Texts.on("curve 3 5;"), CurvePoints::undo, Edge.NONE);
        Edge.due("none more", x.undo(), Edge.NONE);
        Edge.due("M stays", x.count(2), 20);
    }

    private static void undoTen() {
        Edge.says(49, "the latest 10");
        for (int many = 8; many <= 25; many++) {
            CurvePoints x = Texts.on("curve 3 5 within 100 1;");
            for (int k = 1; k <= many; k++) x.within(k, 1 + k % 6);
            int left = Math.min(10, many);
            for (int k = 1; k <= left; k++) {
                Edge.due("of " + many + ", undo " + k, x.undo(), left - k);
                Edge.due("of " + many + ", M", x.count(2), many == k ? 100 : many - k);
                Edge.due("of " + many + ", E", x.count(3), many == k ? 1 : 1 + (many - k) % 6);
            }
            Edge.due("of " + many + ", none more", x.undo(), Edge.NONE);
            Edge.due("of " + many + ", M stays", x.count(2), many == left ? 100 : many - left);
        }
        CurvePoints mixed = Texts.on("curve 1 1 within 100 1;");
        for (int k = 1; k <= 11; k++) mixed.twists(-1);
        for (int k = 9; k >= 0; k--) {
            Edge.due("turned, undo", mixed.undo(), k);
            Edge.due("turned, a", mixed.count(0), k % 2 == 0 ? -1 : 1);
        }
        Edge.due("turned, none more", mixed.undo(), Edge.NONE);
    }

    private static void undoRefused() {
        Edge.says(49, "none of another curve()");
        CurvePoints x = Edge.busy();
        Edge.due("another one", x.curve(), x.count(4));
        Edge.due("none", x.undo(), Edge.NONE);
        Edge.due("it stays", x.count(0), 5);
        x.within(8, 1);
        Edge.due("one", x.undo(), 0);
        CurvePoints same = Edge.busy();
        Texts.curve(same, "curve 0 -2 within 10 2;");
        Edge.due("the same once more is another curve(), too", same.undo(), Edge.NONE);
        CurvePoints faulty = Edge.busy();
        Texts.curve(faulty, "curve 0 -2 within 10 7;");
        Edge.due("one with a FAULT is none", faulty.undo(), 1);
        Edge.says(49, "-2: there is no CURVE.");
        Edge.stays("of a new object", CurvePoints::new, CurvePoints::undo, -2);
        Edge.stays("behind refused ones", () -> {
            CurvePoints y = new CurvePoints();
            y.within(5, 1);
            y.goesBeside();
            y.twists(1);
            Texts.curve(y, "curve 0 0;");
            return y;
        }, CurvePoints::undo, -2);
    }
}
