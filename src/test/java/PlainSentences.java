import java.math.BigInteger;
import java.util.ArrayList;
import java.util.List;
import java.util.Set;
import java.util.TreeSet;

/** The sentences that say what something is and name no boundary: each is worked out again here by its own words. */
final class PlainSentences {
    private static final int USES = 512;

    private PlainSentences() {
    }

    static void run() {
        uses();
        forms();
        formulaForms();
        numberOfZero();
        sums();
        rounds();
        heights();
        madeBy();
    }

    // ---- an object's uses ----

    /** The call that an object is asked as its k-th, what it is asked of being held by the calls ahead of it. */
    private static long ask(CurvePoints x, int k) {
        int prime = new int[] {3, 5, 7, 97}[k % 4];
        switch (k % 23) {
            case 0: return x.within(10 + k % 90, 1 + k % 6);
            case 1: return x.lines();
            case 2: return x.made(1, 4);
            case 3: return x.related(1, 5, k % 2);
            case 4: return x.solves(1, 2, 4, k % 2);
            case 5: return x.twists(k % 2 == 0 ? -1 : 1);
            case 6: return x.turnsRank(k % 3);
            case 7: return x.rank(k % 2);
            case 8: return x.makers(CurvePoints.NONE);
            case 9: return x.groupBy(prime, k % 2);
            case 10: return x.bestBy(prime, k % 2);
            case 11: return x.overMany();
            case 12: return x.traces(97);
            case 13: return x.goesBeside();
            case 14: return x.order(k % 5);
            case 15: return x.tell(k % 5);
            case 16: return x.octet(k % 9);
            case 17: return x.undo();
            case 18: return Texts.formula(x, "2p1-p0");
            case 19: return x.seenBy(prime);
            case 20: return x.tellCurve();
            case 21: return x.undo();
            default: return x.classes(k % 2, k % 4);
        }
    }

    /** One object is asked on and on; what a younger one in the same state answers is due. */
    private static void uses() {
        Edge.says(Edge.WHAT_IT_IS, "An object is used for at most 512 calls after it has been made; what later calls answer is free.");
        CurvePoints old = Texts.on("curve 0 -2 within 100 4;");
        int calls = 4;
        for (int k = 0; calls < USES - 12; k++) {
            CurvePoints young = Texts.on("curve " + old.count(0) + " " + old.count(1) + " within " + old.count(2) + " " + old.count(3) + ";");
            calls += 4;
            boolean past = k % 23 == 17 || k % 23 == 21;
            boolean out = k % 23 == 16;
            long want = past || out ? ask(old, k) : ask(young, k);
            if (!past && !out) Edge.due("call " + calls, ask(old, k), want);
            calls += k % 23 == 18 ? 4 : 1;
        }
        for (; calls < USES - 1; calls++) Edge.due("call " + calls, old.within(100, 4) >= 1 ? 1 : 0, 1);
        Edge.due("call " + USES, old.count(2) * 10 + old.count(3), 1004);
        CurvePoints full = Texts.on("curve 17 -105 within 1000 6;");
        for (int k = 4; k < USES - 1; k++) full.sum(k % 73, k % 71);
        Edge.due("call 512, the most POINTS", full.lines(), Texts.on("curve 17 -105 within 1000 6;").lines());
        CurvePoints tape = new CurvePoints();
        for (int k = 1; k < USES; k++) Edge.due("feed " + k, tape.feed(k, k, k, k, k), k <= 10 ? 20 * k : Edge.NONE);
        Edge.due("call 512, a full TAPE", tape.count(5), 200);
    }

    // ---- texts ----

    private static void forms() {
        Edge.says(Edge.TERMS, "I. CURVE: a -60 .. 60, b -200 .. 200, neither b nor a a - 4 b being 0. TEXT: curve A B [within M E] ; with A, B: [-] NUMBER.");
        for (int a = -3; a <= 3; a++) {
            for (int b = -7; b <= 7; b++) {
                boolean flat = b == 0 || a * a - 4 * b == 0;
                for (String within : new String[] {"", " within 20 3"}) {
                    CurvePoints x = new CurvePoints();
                    String text = "curve " + a + " " + b + within + ";";
                    int answer = Texts.curve(x, text);
                    Edge.due(text, answer, flat ? -4 : x.count(4));
                    long[] want = {a, b, within.isEmpty() ? 200 : 20, within.isEmpty() ? 4 : 3};
                    for (int what = 0; what < 4; what++) Edge.due(text + " count " + what, x.count(what), flat ? Edge.NO_SUCH : want[what]);
                    Edge.due(text + " fault", x.fault(0), flat ? 3 : 0);
                }
            }
        }
        String[] others = {"curve 3 [within 20 3];", "curve [-]3 5;", "curve A B;", "curve 3, 5;", "curve a 3 b 5;", "curve 3 5 within 20;", "curve 3 5 20 3;", "3 5;"};
        int[] places = {8, 6, 6, 7, 6, 19, 10, 0};
        for (int k = 0; k < others.length; k++) {
            CurvePoints x = new CurvePoints();
            Edge.due(others[k], Texts.curve(x, others[k]), -4);
            Edge.due(others[k] + " fault and place", x.fault(0) * 100 + x.fault(1), 100 + places[k]);
        }
    }

    private static void formulaForms() {
        Edge.says(15, "The TAPE (empty then) tells a FORMULA, [-] TERM {+ | - TERM}");
        CurvePoints eight = Texts.on("curve -14 81 within 200 2;");
        // (0, 0) (3, -12) (3, 12) ..: p2 is of ORDER 8, and these are 0 .. 7 times it.
        int[] around = {Edge.ZERO, 2, 3, 6, 0, 5, 4, 1};
        String[] terms = {"p2", "zero", "0p2", "3p2", "p3", "2p3", "p0", "7p2", "20p1"};
        int[] steps = {1, 0, 0, 3, 2, 4, 4, 7, 20 * 7};
        for (int i = 0; i < terms.length; i++) {
            for (int j = 0; j < terms.length; j++) {
                if (j % 3 == 0) eight = Texts.on("curve -14 81 within 200 2;");
                for (int signs = 0; signs < 8; signs++) {
                    int first = signs % 2 == 0 ? 1 : -1;
                    int second = signs / 2 % 2 == 0 ? 1 : -1;
                    int third = signs / 4 == 0 ? 1 : -1;
                    String text = (first < 0 ? "-" : "") + terms[i] + (second < 0 ? " - " : "+") + terms[j] + (third < 0 ? "-" : " + ") + terms[0];
                    Texts.put(eight, text);
                    Edge.due(text, eight.formula(), around[Math.floorMod(first * steps[i] + second * steps[j] + third * steps[0], 8)]);
                    Edge.due(text + ", the TAPE", eight.count(5), 0);
                }
            }
        }
    }

    // ---- ZERO ----

    private static void numberOfZero() {
        Edge.says(Edge.TERMS, "ZERO is a POINT, too, numbered 1000; it is not in the LIST.");
        Edge.stays("turned", x -> x.turned(1000), 1000);
        Edge.stays("sum", x -> x.sum(1000, 1000), 1000);
        Edge.stays("times", x -> x.times(1000, 3), 1000);
        Edge.stays("order", x -> x.order(1000), 1);
        Edge.stays("orderBy", x -> x.orderBy(1000, 3), 1);
        Edge.stays("bits", x -> x.bits(1000), 0);
        Edge.stays("made", x -> x.made(1000, 1000), 1);
        Edge.stays("related", x -> x.related(1000, 1, 0), -1);
        Edge.stays("half", x -> x.half(1000, 0), 2);
        Edge.stays("straight", x -> x.straight(1000, 0, 1), 1);
        Edge.stays("part", x -> x.part(1000), 0);
        Edge.stays("logBy", x -> x.logBy(1, 1000, 3), 0);
        Edge.stays("walk", x -> x.walk(1000), 0);
        Edge.stays("over", x -> x.over(1000), 1000);
        Edge.stays("back", x -> x.back(1000), 1000);
        Edge.stays("solves", x -> x.solves(1000, 1000, 1000, 0), 0);
        Edge.stays("firstAlike", x -> x.firstAlike(1000, 1000), 3);
        CurvePoints teller = Edge.busy();
        Edge.due("tell", teller.tell(1000), 1);
        Edge.stays("point", x -> x.point(1000, 0), Edge.NO_SUCH);
        Edge.stays("of", x -> x.of(1000, 0, 0, 0), Edge.NO_SUCH);
        Edge.stays("of, the other one", x -> x.of(0, 1000, 1, 0), Edge.NO_SUCH);
        Edge.stays("classAt", x -> x.classAt(1000), Edge.NO_SUCH);
        Edge.stays("parallel", x -> x.parallel(1000, 0), Edge.NO_SUCH);
        Edge.stays("beside", x -> x.beside(1000, 0), Edge.NO_SUCH);
        Edge.stays("overPoint", x -> x.overPoint(1000, 0), Edge.NO_SUCH);
        Edge.stays("deep", x -> x.deep(1000), -2);
        Edge.due("formula", Texts.formula(Edge.busy(), "p1000"), -4);
        // It is no POINT of the LIST that is counted, nearest, half of itself, or one of three.
        Edge.stays("POINTS", x -> x.count(4), 7);
        Edge.stays("up to 1000", x -> x.upTo(1000), 7);
        Edge.stays("between", x -> x.between(-9999, 9999, 1), 7);
        Edge.stays("seen by 97", x -> x.seenBy(97), 7);
        Edge.stays("half of ZERO", x -> x.half(1000, 1), Edge.NONE);
        Edge.stays("lines", CurvePoints::lines, 2);
        Edge.stays("a MAKER", x -> x.makers(2), Edge.NONE);
    }

    // ---- SUMS as fractions ----

    private static final String[] CURVES = {
        "0 -2 within 10 2", "-14 81 within 200 2", "-14 81 within 26 2", "-12 48", "0 -25 within 100 2", "22 -135 within 300 4", "49 175", "1 -6 within 1000 6",
        "-60 -161 within 1000 6", "26 -194 within 200 3", "17 -105 within 300 6", "-5 104 within 1000 6", "0 17", "3 3 within 1 1", "-26 196 within 200 1"
    };

    private static Model.Frac whole(long value) {
        return Model.Frac.of(value);
    }

    /** x and y of all POINTS. */
    private static List<Model.Frac[]> fractions(String curve) {
        CurvePoints x = Texts.on("curve " + curve + ";");
        List<Model.Frac[]> all = new ArrayList<>();
        for (int i = 0; i < x.count(4); i++) {
            long e = x.point(i, 2);
            all.add(new Model.Frac[] {Model.Frac.of(x.point(i, 0), e * e), Model.Frac.of(x.point(i, 1), e * e * e)});
        }
        return all;
    }

    /** The SUM of two as the terms tell it, null for ZERO, which may be given, too. */
    private static Model.Frac[] sum(Model.Frac[] one, Model.Frac[] other, long a, long b) {
        if (one == null) return other;
        if (other == null) return one;
        if (one[0].equals(other[0]) && one[1].plus(other[1]).isNought()) return null;
        Model.Frac s;
        if (one[0].equals(other[0])) {
            Model.Frac above = whole(3).times(one[0]).times(one[0]).plus(whole(2 * a).times(one[0])).plus(whole(b));
            s = above.by(whole(2).times(one[1]));
        } else {
            s = one[1].minus(other[1]).by(one[0].minus(other[0]));
        }
        Model.Frac x = s.times(s).minus(whole(a)).minus(one[0]).minus(other[0]);
        return new Model.Frac[] {x, s.times(one[0].minus(x)).minus(one[1])};
    }

    private static Model.Frac[] turned(Model.Frac[] one) {
        return one == null ? null : new Model.Frac[] {one[0], whole(0).minus(one[1])};
    }

    private static int number(List<Model.Frac[]> all, Model.Frac[] one) {
        if (one == null) return Edge.ZERO;
        for (int i = 0; i < all.size(); i++) if (all.get(i)[0].equals(one[0]) && all.get(i)[1].equals(one[1])) return i;
        return Edge.FAR;
    }

    private static void sums() {
        Edge.says(Edge.TERMS, "Else with s (y of the one less y of the other one, by x less x; of one POINT (3 x x + 2 a x + b) by (2 y)): "
            + "x is s s - a less both x, y is s times (x of the first less that x) less y of the first.");
        for (String curve : CURVES) {
            List<Model.Frac[]> all = fractions(curve);
            long a = Texts.on("curve " + curve + ";").count(0);
            long b = Texts.on("curve " + curve + ";").count(1);
            for (int i = 0; i < all.size(); i++) {
                CurvePoints x = Texts.on("curve " + curve + ";");
                for (int j = 0; j < all.size(); j++) {
                    Model.Frac[] both = sum(all.get(i), all.get(j), a, b);
                    Model.Frac[] less = sum(all.get(i), turned(all.get(j)), a, b);
                    String what = curve + ", " + i + " and " + j;
                    Edge.due(what, x.sum(i, j), number(all, both));
                    Edge.due(what + ", u", x.of(i, j, 0, 0), both == null ? Edge.NO_SUCH : both[0].u().longValueExact());
                    Edge.due(what + ", v", x.of(i, j, 0, 1), both == null ? Edge.NO_SUCH : both[0].v().longValueExact());
                    Edge.due(what + " turned, u", x.of(i, j, 1, 0), less == null ? Edge.NO_SUCH : less[0].u().longValueExact());
                    Edge.due(what + " turned, v", x.of(i, j, 1, 1), less == null ? Edge.NO_SUCH : less[0].v().longValueExact());
                    Edge.due(what + ", bits", x.parallel(i, j), digits(both) + digits(less) - 2 * digits(all.get(i)) - 2 * digits(all.get(j)));
                }
            }
        }
    }

    // ---- ROUND ----

    private static void rounds() {
        Edge.says(Edge.TERMS, "ROUND are those with an ORDER, and ZERO.");
        for (String curve : CURVES) {
            CurvePoints x = Texts.on("curve " + curve + ";");
            int many = 1;
            int[] orders = new int[(int) x.count(4)];
            for (int i = 0; i < orders.length; i++) {
                orders[i] = x.order(i);
                if (orders[i] > 0) many++;
            }
            Edge.due(curve + ", how many", x.round(0), many);
            // One that is ROUND is so by -1 and 0 ahead of all others; else ZERO by 0 and -1 is the first.
            for (int i = 0; i < orders.length; i++) Edge.due(curve + ", related " + i, x.related(i, Edge.ZERO, 0), orders[i] > 0 ? -1 : 0);
        }
    }

    // ---- HEIGHTS ----

    private static int digits(Model.Frac[] one) {
        return one == null ? 0 : height(one).toString(2).length();
    }

    private static BigInteger height(Model.Frac[] one) {
        return one[0].u().abs().max(one[0].v());
    }

    private static void heights() {
        Edge.says(Edge.TERMS, "BITS: how many binary digits it has.");
        Set<Integer> met = new TreeSet<>();
        for (String curve : CURVES) {
            List<Model.Frac[]> all = fractions(curve);
            CurvePoints x = Texts.on("curve " + curve + ";");
            for (int i = 0; i < all.size(); i++) {
                int bits = digits(all.get(i));
                met.add(bits);
                int high = height(all.get(i)).intValueExact();
                Edge.due(curve + ", BITS of " + i, x.bits(i), bits);
                int upTo = 0;
                int above = Edge.NONE;
                for (int k = all.size() - 1; k >= 0; k--) {
                    if (height(all.get(k)).intValueExact() <= high) upTo++;
                    if (height(all.get(k)).intValueExact() >= high) above = k;
                }
                Edge.due(curve + ", up to " + high, x.upTo(high), upTo);
                Edge.due(curve + ", above " + high, x.above(high), above);
            }
        }
        Edge.due("all from 1 to 10 digits", met.size(), 10);
    }

    // ---- MADE BY ----

    /** ZERO and the makers, and on and on one of those that are there with a maker, or a maker TURNED. */
    private static Set<Integer> closure(List<Model.Frac[]> all, List<Integer> makers, long a, long b) {
        Set<Integer> made = new TreeSet<>(makers);
        made.add(Edge.ZERO);
        for (int many = 0; many != made.size();) {
            many = made.size();
            for (int one : List.copyOf(made)) {
                for (int maker : makers) {
                    Model.Frac[] point = one == Edge.ZERO ? null : all.get(one);
                    Model.Frac[] with = maker == Edge.ZERO ? null : all.get(maker);
                    made.add(number(all, sum(point, with, a, b)));
                    made.add(number(all, sum(point, turned(with), a, b)));
                }
            }
            made.remove(Edge.FAR);
        }
        return made;
    }

    private static void madeBy() {
        Edge.says(Edge.TERMS, "MADE BY some POINTS: ZERO and these, and, as long as there are any, SUMS of one of them and one of those told, or that TURNED");
        for (String curve : CURVES) {
            List<Model.Frac[]> all = fractions(curve);
            CurvePoints x = Texts.on("curve " + curve + ";");
            long a = x.count(0);
            long b = x.count(1);
            for (int i = 0; i < all.size(); i += 1 + all.size() / 12) {
                for (int j = i; j < all.size(); j += 1 + all.size() / 6) {
                    Edge.due(curve + ", made " + i + " " + j, x.made(i, j), closure(all, List.of(i, j), a, b).size());
                }
                Edge.due(curve + ", made " + i, x.made(Edge.ZERO, i), closure(all, List.of(i), a, b).size());
            }
        }
        Edge.says(Edge.TERMS, "MAKERS: of the LIST from 0 on each one that is not MADE BY the MAKERS ahead of it.");
        for (String curve : CURVES) {
            List<Model.Frac[]> all = fractions(curve);
            CurvePoints x = Texts.on("curve " + curve + ";");
            List<Integer> makers = new ArrayList<>();
            Set<Integer> made = closure(all, makers, x.count(0), x.count(1));
            for (int i = 0; i < all.size(); i++) {
                if (made.contains(i)) continue;
                Edge.due(curve + ", MAKER " + makers.size(), x.makers(makers.size()), i);
                makers.add(i);
                made = closure(all, makers, x.count(0), x.count(1));
            }
            Edge.due(curve + ", how many MAKERS", x.makers(Edge.NONE), makers.size());
        }
    }
}
