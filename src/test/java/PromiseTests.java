import java.lang.reflect.InvocationTargetException;
import java.lang.reflect.Method;
import java.lang.reflect.Modifier;

/** For each promise of the document ordinary inputs, the edges it names, and wrong inputs; the answers are worked out by hand or by Model. */
public final class PromiseTests {
    private static final long NO_SUCH = CurvePoints.NO_SUCH;
    private static final int NONE = CurvePoints.NONE;
    private static final int FAR = CurvePoints.FAR;
    private static final int ZERO = CurvePoints.ZERO;
    private static final int LEAST = Integer.MIN_VALUE;
    private static final int MOST = Integer.MAX_VALUE;

    private static int wrong = 0;
    private static int asked = 0;

    private static void due(int promise, String what, long got, long want) {
        asked++;
        if (got == want) return;
        wrong++;
        System.out.println("promise " + promise + ": " + what + " answered " + got + ", due is " + want);
    }

    private static void dueText(int promise, String what, String got, String want) {
        asked++;
        if (got.equals(want)) return;
        wrong++;
        System.out.println("promise " + promise + ": " + what + " told " + got + ", due is " + want);
    }

    /** (-1, -1) (-1, 1) (0, 0) (2, -2) (2, 2) (9/4, -21/8) (9/4, 21/8). */
    private static CurvePoints two() {
        return Texts.on("curve 0 -2 within 10 2;");
    }

    /** (0, 0) (3, -12) (3, 12) (9, -18) (9, 18) (27, -108) (27, 108): all come round, the greatest ORDER is 8. */
    private static CurvePoints eight() {
        return Texts.on("curve -14 81 within 200 2;");
    }

    /** (0, 0) (4, -8) (4, 8) (12, -24) (12, 24): ORDERS 2 3 3 6 6. */
    private static CurvePoints six() {
        return Texts.on("curve -12 48;");
    }

    /** (-5, 0) (-4, -6) (-4, 6) (0, 0) (5, 0) (45, -300) (45, 300) (25/4, -75/8) (25/4, 75/8). */
    private static CurvePoints five() {
        return Texts.on("curve 0 -25 within 100 2;");
    }

    private static void texts() {
        CurvePoints x = new CurvePoints();
        due(1, "curve a of a new object", x.count(0), NO_SUCH);
        due(1, "points of a new object", x.count(4), 0);
        due(1, "fault of a new object", x.fault(0), 0);
        due(1, "place of a new object", x.fault(1), NONE);
        for (int k = 1; k <= 10; k++) due(2, "feed " + k, x.feed(0x63757276, 0x65203020, 0x2d323b20, 0x20202020, 0x20202020), 20 * k);
        due(2, "feed over 200", x.feed(0, 0, 0, 0, 0), NONE);
        due(2, "tape after it", x.count(5), 200);
        due(3, "end too long", x.end(201), NONE);
        due(3, "end below 0", x.end(-1), NONE);
        due(3, "end least", x.end(LEAST), NONE);
        due(3, "tape after those", x.count(5), 200);
        due(3, "end as it is", x.end(200), 200);
        due(3, "end", x.end(181), 181);
        due(2, "feed over 200 by one", x.feed(0, 0, 0, 0, 0), NONE);
        due(3, "end", x.end(180), 180);
        due(2, "feed to 200", x.feed(0, 0, 0, 0, 0), 200);
        due(3, "end", x.end(11), 11);
        due(3, "end again", x.end(12), NONE);
        due(4, "curve 0 -2;, with (-8/9, 28/27) and its turned one, too", x.curve(), 9);
        due(4, "tape after it", x.count(5), 0);
        due(6, "M without", x.count(2), 200);
        due(6, "E without", x.count(3), 4);
        due(3, "end 0", x.end(0), 0);
        due(2, "feed bytes of either sign", x.feed(-1, 0x80, LEAST, 1, 0), 20);
        due(5, "byte 255 is a token that is none", x.curve() + 10 * x.fault(0) + 100 * x.fault(1), -4 + 10);
    }

    private static void fault(String text, int number, int place) {
        CurvePoints x = two();
        int answer = Texts.curve(x, text);
        due(4, text, answer, number == 0 ? x.count(4) : -4);
        due(5, text + " fault", x.fault(0), number);
        due(5, text + " place", x.fault(1), place);
        due(4, text + " tape", x.count(5), 0);
        if (number != 0) due(4, text + " leaves the curve", x.count(1) * 100 + x.count(2), -190);
    }

    private static void faults() {
        fault("curve 0 -2;", 0, NONE);
        fault("curve0-2;", 0, NONE);
        fault("curve0-2within10 2;", 0, NONE);
        fault("\n curve \n 00000000000000000000007 - 3 ; \n", 0, NONE);
        fault("curve -60 -200 within 1000 6;", 0, NONE);
        fault("curve 60 200 within 1 1;", 0, NONE);
        fault("", 1, 0);
        fault("   ", 1, 3);
        fault("curves 0 -2;", 1, 0);
        fault("Curve 0 -2;", 1, 0);
        fault("curve\t0 -2;", 1, 5);
        fault("curve + 0 -2;", 1, 6);
        fault("curve -- 0 -2;", 1, 7);
        fault("curve 61 -2;", 2, 6);
        fault("curve - 61 x", 2, 8);
        fault("curve 99999999999999999999 -2;", 2, 6);
        fault("curve 0 201;", 2, 8);
        fault("curve 60 900;", 2, 9);
        fault("curve 0 0;", 3, 8);
        fault("curve 0 -0 x", 3, 9);
        fault("curve -4 4 within 0 9", 3, 9);
        fault("curve 0 -2", 1, 10);
        fault("curve 0 -2  ", 1, 12);
        fault("curve 0 -2 ; ;", 1, 13);
        fault("curve 0 -2 within;", 1, 17);
        fault("curve 0 -2 within 5;", 1, 19);
        fault("curve 0 -2 within -5 2;", 1, 18);
        fault("curve 0 -2 within 0 2;", 2, 18);
        fault("curve 0 -2 within 1001 2;", 2, 18);
        fault("curve 0 -2 within 5 0;", 2, 20);
        fault("curve 0 -2 within 5 7;", 2, 20);
        fault("curve 0 -2 without 5 6;", 1, 11);
        CurvePoints x = two();
        due(5, "another what", x.fault(2), NONE);
        due(5, "what below 0", x.fault(-1), NONE);
        Texts.formula(x, "p99");
        due(5, "of the latest formula", x.fault(0) * 10 + x.fault(1), 21);
        Texts.formula(x, "p1");
        due(5, "of a formula without a fault", x.fault(0), 0);
        due(5, "its place", x.fault(1), NONE);
    }

    private static void counts() {
        CurvePoints x = Texts.on("curve -7 11 within 30 3;");
        due(6, "a", x.count(0), -7);
        due(6, "b", x.count(1), 11);
        due(6, "M", x.count(2), 30);
        due(6, "E", x.count(3), 3);
        due(6, "what 7", x.count(7), NO_SUCH);
        due(6, "what -1", x.count(-1), NO_SUCH);
        x.tell(ZERO);
        x.feed(0, 0, 0, 0, 0);
        due(6, "tape", x.count(5), 20);
        due(6, "out", x.count(6), 1);
        CurvePoints y = two();
        due(6, "points", y.count(4), 7);
        int[][] all = {{-1, -1, 1}, {-1, 1, 1}, {0, 0, 1}, {2, -2, 1}, {2, 2, 1}, {9, -21, 2}, {9, 21, 2}};
        for (int i = 0; i < all.length; i++) {
            for (int what = 0; what < 3; what++) due(7, "point " + i + " " + what, y.point(i, what), all[i][what]);
            due(8, "at " + i, y.at(all[i][0], all[i][2], Integer.signum(all[i][1])), i);
        }
        due(7, "what 3", y.point(0, 3), NO_SUCH);
        due(7, "what -1", y.point(0, -1), NO_SUCH);
        due(7, "no such point", y.point(7, 0), NO_SUCH);
        due(7, "point -1", y.point(-1, 0), NO_SUCH);
        due(7, "zero", y.point(ZERO, 0), NO_SUCH);
        due(8, "not there", y.at(9, 1, 1), NONE);
        due(8, "no root there", y.at(2, 1, 0), NONE);
        due(8, "out of all bounds", y.at(LEAST, MOST, 1), NONE);
        due(8, "sign 2", y.at(2, 1, 2), -2);
        due(8, "sign -2", y.at(2, 1, -2), -2);
    }

    private static void sums() {
        CurvePoints x = two();
        due(9, "turned 0", x.turned(0), 1);
        due(9, "turned 6", x.turned(6), 5);
        due(9, "turned (0, 0)", x.turned(2), 2);
        due(9, "turned zero", x.turned(ZERO), ZERO);
        due(9, "turned 7", x.turned(7), -2);
        due(9, "turned -1", x.turned(-1), -2);
        due(10, "double", x.sum(1, 1), 5);
        due(10, "double the other", x.sum(0, 0), 6);
        due(10, "with (0, 0)", x.sum(1, 2), 4);
        due(10, "with (0, 0), turned about", x.sum(2, 1), 4);
        due(10, "with its turned one", x.sum(5, 6), ZERO);
        due(10, "(0, 0) twice", x.sum(2, 2), ZERO);
        due(10, "far", x.sum(5, 5), FAR);
        due(10, "zero and zero", x.sum(ZERO, ZERO), ZERO);
        due(10, "zero first", x.sum(ZERO, 3), 3);
        due(10, "zero behind", x.sum(3, ZERO), 3);
        due(10, "no such first", x.sum(-1, 3), -2);
        due(10, "no such behind", x.sum(3, 999), -2);
        due(11, "u of the sum", x.of(1, 5, 0, 0), -1);
        due(11, "v of the sum", x.of(1, 5, 0, 1), 169);
        due(11, "height of the sum", x.of(1, 5, 0, 2), 169);
        due(11, "u of the difference", x.of(1, 5, 1, 0), -1);
        due(11, "v of the difference", x.of(1, 5, 1, 1), 1);
        due(11, "u of twice 5", x.of(5, 5, 0, 0), 12769);
        due(11, "v of twice 5", x.of(5, 5, 0, 1), 7056);
        due(11, "height of twice 5", x.of(5, 5, 0, 2), 12769);
        due(11, "zero as difference", x.of(5, 5, 1, 0), NO_SUCH);
        due(11, "zero as sum", x.of(5, 6, 0, 2), NO_SUCH);
        due(11, "zero given", x.of(ZERO, 5, 0, 0), NO_SUCH);
        due(11, "how 2", x.of(1, 5, 2, 0), NO_SUCH);
        due(11, "what 3", x.of(1, 5, 0, 3), NO_SUCH);
        due(12, "2 times", x.times(1, 2), 5);
        due(12, "-1 times", x.times(1, -1), 0);
        due(12, "-2 times", x.times(1, -2), 6);
        due(12, "0 times", x.times(1, 0), ZERO);
        due(12, "3 times is far", x.times(1, 3), FAR);
        due(12, "4 times is far", x.times(1, 4), FAR);
        due(12, "-3 times is far", x.times(1, -3), FAR);
        due(12, "20 times", x.times(2, 20), ZERO);
        due(12, "-19 times", x.times(2, -19), 2);
        due(12, "21 times", x.times(2, 21), -2);
        due(12, "-21 times", x.times(2, -21), -2);
        due(12, "zero", x.times(ZERO, 7), ZERO);
        due(12, "no such", x.times(7, 1), -2);
        CurvePoints y = eight();
        due(12, "around and on", y.times(1, 9), 1);
        due(12, "3 times", y.times(2, 3), 6);
    }

    private static void orders() {
        CurvePoints y = eight();
        int[] all = {2, 8, 8, 4, 4, 8, 8};
        for (int i = 0; i < all.length; i++) due(13, "order " + i, y.order(i), all[i]);
        due(13, "order of zero", y.order(ZERO), 1);
        due(13, "no such", y.order(7), -2);
        due(13, "far ahead", two().order(1), 0);
        due(14, "how many", y.round(0), 8);
        due(14, "greatest", y.round(1), 8);
        due(14, "twos", y.round(2), 1);
        due(14, "what 3", y.round(3), -2);
        due(14, "what -1", y.round(-1), -2);
        due(14, "three twos", five().round(2), 3);
        due(14, "four in all", five().round(0), 4);
        y.within(9, 2);
        due(13, "8 no more, as 3 times it is far", y.order(1), 0);
        due(14, "fewer then", y.round(0), 4);
    }

    private static void formula(String text, int worth, int number, int place) {
        CurvePoints x = two();
        due(15, text, Texts.formula(x, text), worth);
        due(15, text + " fault", x.fault(0), number);
        due(15, text + " place", x.fault(1), place);
        due(15, text + " tape", x.count(5), 0);
    }

    private static void formulas() {
        formula("p1", 1, 0, NONE);
        formula("-p1", 0, 0, NONE);
        formula(" 2 p 1 ", 5, 0, NONE);
        formula("2p1-p1", 1, 0, NONE);
        formula("-p1 + p2 + p2", 0, 0, NONE);
        formula("-2p1 + p2 + p2", FAR, 0, NONE);
        formula("zero", ZERO, 0, NONE);
        formula("-zero - zero + p3", 3, 0, NONE);
        formula("0p5+p4", 4, 0, NONE);
        formula("p1-p1", ZERO, 0, NONE);
        formula("3p1-2p1", FAR, 0, NONE);
        formula("p5+p5-p5-p5", FAR, 0, NONE);
        formula("p5-p5+p5", 5, 0, NONE);
        formula("20p2", ZERO, 0, NONE);
        formula("p\n0000000000000000000004", 4, 0, NONE);
        formula("21p2", -4, 2, 0);
        formula("21zero", -4, 2, 0);
        formula("p7", -4, 2, 1);
        formula("p1000", -4, 2, 1);
        formula("p99999999999999999999", -4, 2, 1);
        formula("", -4, 1, 0);
        formula(" ", -4, 1, 1);
        formula("-", -4, 1, 1);
        formula("+p1", -4, 1, 0);
        formula("--p1", -4, 1, 1);
        formula("p1 +", -4, 1, 4);
        formula("p1 p2", -4, 1, 3);
        formula("p1;", -4, 1, 2);
        formula("2", -4, 1, 1);
        formula("2zero", -4, 1, 1);
        formula("pp1", -4, 1, 0);
        formula("zerop1", -4, 1, 0);
        formula("p-1", -4, 1, 1);
        formula("p7 + + 21p1", -4, 2, 1);
        CurvePoints x = new CurvePoints();
        Texts.put(x, "p1");
        due(15, "without a curve", x.formula(), -2);
        due(15, "the tape stays", x.count(5), 2);
    }

    private static void primes() {
        CurvePoints x = two();
        due(16, "by 3", x.many(3), 4);
        due(16, "by 5", x.many(5), 10);
        due(16, "by 97", x.many(97), 116);
        for (int p : new int[] {2, 4, 9, 91, 99, 101, 0, 1, -3, LEAST, MOST}) due(16, "by " + p, x.many(p), -2);
        due(16, "a prime that divides b", five().many(5), -2);
        due(16, "a prime that divides a a - 4 b", Texts.on("curve 1 -1;").many(5), -2);
        due(17, "order by 3", x.orderBy(1, 3), 4);
        due(17, "order of (0, 0)", x.orderBy(2, 3), 2);
        due(17, "order of zero", x.orderBy(ZERO, 3), 1);
        due(17, "bad prime", x.orderBy(1, 2), -2);
        due(17, "no such point", x.orderBy(7, 3), -2);
        CurvePoints z = Texts.on("curve 0 -36 within 1000 6;");
        due(17, "e a multiple of p", z.orderBy(15, 5), 1);
        due(18, "bound", x.bound(), 2);
        due(18, "bound of eight", eight().bound(), 8);
        due(18, "bound of six", six().bound(), 6);
        due(19, "trace 5", x.trace(5), -4);
        due(19, "trace 3", x.trace(3), 0);
        due(19, "trace 4", x.trace(4), NO_SUCH);
        due(19, "trace 5 of five", five().trace(5), NO_SUCH);
        due(62, "to 5", x.traces(5), -4);
        due(62, "to 4", x.traces(4), 0);
        due(62, "to 0", x.traces(0), 0);
        long all = 0;
        for (int p = 3; p <= 97; p++) if (x.trace(p) != NO_SUCH) all += x.trace(p);
        due(62, "to 97", x.traces(97), all);
        due(62, "to 98", x.traces(98), NO_SUCH);
        due(62, "to -1", x.traces(-1), NO_SUCH);
        due(62, "5 left out", five().traces(7), five().trace(3) + five().trace(7));
    }

    private static void groups() {
        CurvePoints x = two();
        due(43, "greatest by 3", x.groupBy(3, 0), 4);
        due(43, "cofactor by 3", x.groupBy(3, 1), 1);
        due(43, "greatest by 7 of five", five().groupBy(7, 0), 4);
        due(43, "cofactor by 7 of five", five().groupBy(7, 1), 2);
        due(43, "what 2", x.groupBy(3, 2), -2);
        due(43, "by 2", x.groupBy(2, 0), -2);
        due(44, "log of itself", x.logBy(1, 1, 3), 1);
        due(44, "log of zero", x.logBy(1, ZERO, 3), 0);
        due(44, "log of the turned one", x.logBy(1, 0, 3), 3);
        due(44, "log of twice", x.logBy(1, 5, 5), 2);
        due(44, "none", x.logBy(2, 1, 3), NONE);
        due(44, "none from zero", x.logBy(ZERO, 1, 3), NONE);
        due(44, "zero from zero", x.logBy(ZERO, ZERO, 3), 0);
        due(44, "by 4", x.logBy(1, 1, 4), -2);
        due(44, "no such point", x.logBy(1, 9, 3), -2);
        due(45, "x by 3", x.bestBy(3, 0), 2);
        due(45, "y by 3", x.bestBy(3, 1), 1);
        due(45, "what 2", x.bestBy(3, 2), -2);
        due(45, "by 9", x.bestBy(9, 0), -2);
        due(58, "seen by 3", x.seenBy(3), 3);
        due(58, "seen by 97", x.seenBy(97), 7);
        due(58, "seen by 2", x.seenBy(2), -2);
        CurvePoints z = Texts.on("curve 0 -36 within 1000 6;");
        due(58, "all seen", z.seenBy(97), 17);
        due(58, "two of zero seen as one", z.seenBy(5), 8);
        due(59, "(-1, 1) and (2, -2)", x.firstAlike(1, 3), 3);
        due(59, "(-1, 1) and (2, 2)", x.firstAlike(1, 4), NONE);
        due(59, "one with itself", x.firstAlike(2, 2), 3);
        due(59, "zero with itself", x.firstAlike(ZERO, ZERO), 3);
        due(59, "zero with e 2", x.firstAlike(ZERO, 5), NONE);
        due(59, "zero with e 5", z.firstAlike(ZERO, 15), 5);
        due(59, "two with e 5", z.firstAlike(16, 15), 5);
        due(59, "no such point", x.firstAlike(1, 7), -2);
        CurvePoints y = Texts.on("curve 1 -6 within 10 1;");
        due(54, "3 divides b, a is a square", y.bad(3), 1);
        due(54, "5 divides a a - 4 b alone", y.bad(5), 2);
        due(54, "7 divides neither", y.bad(7), -2);
        due(54, "2", y.bad(2), -2);
        due(54, "15", y.bad(15), -2);
        due(54, "0 like", five().bad(5), 3);
        due(54, "-2 a like a square", Texts.on("curve -2 -2;").bad(3), 1);
        due(61, "all of it", y.breaks(0), 16L * 36 * 25);
        due(61, "2 in it", y.breaks(2), 6);
        due(61, "3 in it", y.breaks(3), 2);
        due(61, "5 in it", y.breaks(5), 2);
        due(61, "97 in it", y.breaks(97), 0);
        due(61, "below 0", Texts.on("curve 0 4;").breaks(0), 16L * 16 * -16);
        due(61, "4", y.breaks(4), NO_SUCH);
        due(61, "1", y.breaks(1), NO_SUCH);
        due(61, "101", y.breaks(101), NO_SUCH);
    }

    private static void classes() {
        CurvePoints x = two();
        long[][] zero = {{1, 1, 1, 1, 1, 0}, {-1, 1, 1, 1, 1, 1}, {2, 1, 1, 1, 1, 1}, {-2, 1, 1, 1, 0, 1}};
        long[][] one = {{1, 1, 1, 1, 1, 0}, {-1, 0, 0, 0, NO_SUCH, NO_SUCH}, {2, 1, 1, 1, 0, 1}, {-2, 0, 0, 0, NO_SUCH, NO_SUCH}};
        for (int k = 0; k < 4; k++) {
            for (int what = 0; what < 6; what++) {
                due(21, "side 0 class " + k + " " + what, x.classOf(0, k, what), zero[k][what]);
                due(21, "side 1 class " + k + " " + what, x.classOf(1, k, what), one[k][what]);
            }
        }
        // 2 M M M M - 60 M M - 64 is 544 544 by M 20; 129 + 116 e e + 32 e e e e is 2273 2273 by e 20.
        due(21, "M 20", Texts.on("curve -60 -128;").classOf(0, 2, 4), 20);
        due(21, "e 1 with it", Texts.on("curve -60 -128;").classOf(0, 2, 5), 1);
        due(21, "e 20", Texts.on("curve -58 -191;").classOf(1, 12, 5), 20);
        due(21, "M 1 with it", Texts.on("curve -58 -191;").classOf(1, 12, 4), 1);
        due(21, "class 4", x.classOf(0, 4, 0), NO_SUCH);
        due(21, "class -1", x.classOf(0, -1, 0), NO_SUCH);
        due(21, "side 2", x.classOf(2, 0, 0), NO_SUCH);
        due(21, "what 6", x.classOf(0, 0, 6), NO_SUCH);
        int[][] tallies = {{4, 4, 4, 4}, {4, 2, 2, 2}};
        for (int side = 0; side < 2; side++) {
            for (int what = 0; what < 4; what++) due(20, "side " + side + " " + what, x.classes(side, what), tallies[side][what]);
        }
        due(20, "side -1", x.classes(-1, 0), -2);
        due(20, "what 4", x.classes(0, 4), -2);
        CurvePoints f = five();
        due(20, "10 and others of side 1", f.classes(1, 0), 8);
        due(20, "possible, not found", f.classes(1, 2), 3);
        due(20, "found", f.classes(1, 1), 2);
        due(22, "at least", f.rank(0), 1);
        due(22, "at most, cut", f.rank(1), 1);
        due(22, "what 2", f.rank(2), -2);
        due(22, "what -1", f.rank(-1), -2);
        CurvePoints wide = Texts.on("curve -51 -140 within 20 1;");
        due(22, "at least 0", wide.rank(0), 0);
        due(22, "at most 4", wide.rank(1), 4);
        due(22, "less than 0 is 0", six().rank(0), 0);
        CurvePoints made = findMadeNotFound();
        due(20, "made, not found", made.classes(0, 3) > made.classes(0, 1) ? 1 : 0, 1);
        for (int i = 0; i < 7; i++) due(23, "class at " + i, x.classAt(i), new int[] {-1, -1, -2, 2, 2, 1, 1}[i]);
        due(23, "x 0, a square in b", Texts.on("curve 0 -36;").classAt(Texts.on("curve 0 -36;").at(0, 1, 0)), -1);
        due(23, "zero", x.classAt(ZERO), NO_SUCH);
        due(23, "no such", x.classAt(7), NO_SUCH);
        due(42, "zero", x.shows(0), ZERO);
        due(42, "d -1", x.shows(1), 0);
        due(42, "d 2", x.shows(2), 4);
        due(42, "d -2", x.shows(3), 2);
        due(42, "no class 4", x.shows(4), -2);
        due(42, "no class -1", x.shows(-1), -2);
        due(42, "not found", wide.shows(1), NONE);
        x.within(1, 1);
        due(42, "far", x.shows(2), FAR);
    }

    /** A curve of side 0 with a product of FOUND ones that is not FOUND itself. */
    private static CurvePoints findMadeNotFound() {
        for (int a = -60; a <= 60; a++) {
            for (int b = -200; b <= 200; b++) {
                if (b == 0 || a * a == 4 * b) continue;
                CurvePoints x = Texts.on("curve " + a + " " + b + " within 1 1;");
                if (x.classes(0, 3) > x.classes(0, 1)) return x;
            }
        }
        return new CurvePoints();
    }

    private static void heights() {
        CurvePoints x = two();
        for (int i = 0; i < 7; i++) due(24, "bits " + i, x.bits(i), new int[] {1, 1, 1, 2, 2, 4, 4}[i]);
        due(24, "bits of zero", x.bits(ZERO), 0);
        due(24, "no such", x.bits(7), -2);
        due(25, "with (0, 0)", x.parallel(1, 2), 0);
        due(25, "with itself", x.parallel(1, 1), 4 + 0 - 4);
        due(25, "far ones", x.parallel(5, 5), 14 + 0 - 16);
        due(25, "of two", x.parallel(1, 5), 8 + 1 - 2 * (1 + 4));
        due(25, "zero given", x.parallel(1, ZERO), NO_SUCH);
        due(25, "no such", x.parallel(7, 1), NO_SUCH);
        due(29, "1 at least", x.above(1), 0);
        due(29, "2 at least", x.above(2), 3);
        due(29, "3 at least", x.above(3), 5);
        due(29, "10 at least", x.above(10), NONE);
        due(29, "0", x.above(0), -2);
        due(29, "1001", x.above(1001), -2);
        due(29, "1000", x.above(1000), NONE);
        due(30, "up to 1", x.upTo(1), 3);
        due(30, "up to 8", x.upTo(8), 5);
        due(30, "up to 9", x.upTo(9), 7);
        due(30, "up to 1000", x.upTo(1000), 7);
        due(30, "0", x.upTo(0), -2);
        due(30, "1001", x.upTo(1001), -2);
    }

    private static void making() {
        CurvePoints x = two();
        due(26, "by 1 and zero", x.made(1, ZERO), 5);
        due(26, "by 1 twice", x.made(1, 1), 5);
        due(26, "by 1 and 2", x.made(1, 2), 8);
        due(26, "by zero", x.made(ZERO, ZERO), 1);
        due(26, "by (0, 0)", x.made(2, 2), 2);
        due(26, "by 5, whose halves it does not make", x.made(5, 5), 3);
        due(26, "no such", x.made(1, 7), -2);
        due(27, "how many", x.makers(NONE), 2);
        due(27, "first", x.makers(0), 0);
        due(27, "next", x.makers(1), 2);
        due(27, "not so many", x.makers(2), NONE);
        due(27, "-2", x.makers(-2), -2);
        CurvePoints y = five();
        due(27, "three", y.makers(NONE), 3);
        due(27, "their last", y.makers(2), 3);
        due(28, "1 and 5: s", x.related(1, 5, 0), -2);
        due(28, "1 and 5: t", x.related(1, 5, 1), 1);
        due(28, "1 and 4: s", x.related(1, 4, 0), -1);
        due(28, "1 and 4: t", x.related(1, 4, 1), 1);
        due(28, "1 and (0, 0): s", x.related(1, 2, 0), 0);
        due(28, "1 and (0, 0): t", x.related(1, 2, 1), -1);
        due(28, "zero first: s", x.related(ZERO, 1, 0), -1);
        due(28, "zero first: t", x.related(ZERO, 1, 1), 0);
        due(28, "what 2", x.related(1, 5, 2), NO_SUCH);
        due(28, "no such", x.related(1, 7, 0), NO_SUCH);
        CurvePoints free = Texts.on("curve -60 -161;");
        due(28, "two that are not", free.related(free.makers(0), free.makers(1), 0), relatedByModel());
        due(55, "5 by 1: s", x.solves(1, 2, 5, 0), 2);
        due(55, "5 by 1: t", x.solves(1, 2, 5, 1), 0);
        due(55, "4 by 1 and 2: s", x.solves(1, 2, 4, 0), 1);
        due(55, "4 by 1 and 2: t, the least", x.solves(1, 2, 4, 1), -1);
        due(55, "zero: s", x.solves(1, 2, ZERO, 0), 0);
        due(55, "zero: t", x.solves(1, 2, ZERO, 1), 0);
        due(55, "none", x.solves(2, 2, 1, 0), NO_SUCH);
        CurvePoints wide = Texts.on("curve 49 175;");
        for (int s = -5; s <= 5; s++) due(55, "(-35, 105) " + s + " times", wide.solves(3, ZERO, wide.times(3, s), 0), s);
        for (int t = -5; t <= 5; t++) due(55, "(-35, 105) " + t + " times, behind", wide.solves(ZERO, 3, wide.times(3, t), 1), t);
        due(55, "6 times is beyond", wide.times(3, 6) >= 0 ? wide.solves(3, ZERO, wide.times(3, 6), 0) : 0, NO_SUCH);
        due(55, "what -1", x.solves(1, 2, 5, -1), NO_SUCH);
        due(55, "no such", x.solves(1, 2, 7, 0), NO_SUCH);
    }

    private static long relatedByModel() {
        Model m = new Model();
        for (int[] row : Texts.feeds("curve -60 -161;")) m.feed(row[0], row[1], row[2], row[3], row[4]);
        m.curve();
        return m.related(m.makers(0), m.makers(1), 0);
    }

    private static void besides() {
        CurvePoints x = two();
        due(31, "u of (9/4, ..)", x.beside(5, 0), 49);
        due(31, "v of (9/4, ..)", x.beside(5, 1), 36);
        due(31, "u of (-1, ..)", x.beside(0, 0), 1);
        due(31, "x 0", x.beside(2, 0), NO_SUCH);
        due(31, "zero", x.beside(ZERO, 0), NO_SUCH);
        due(31, "what 2", x.beside(5, 2), NO_SUCH);
        due(31, "y 0", five().beside(0, 0), 0);
        due(31, "below y 0", five().beside(0, 1), 1);
        due(32, "1728 above", x.same(0), 1728);
        due(32, "1728 below", x.same(1), 1);
        due(32, "0 above", Texts.on("curve 3 3;").same(0), 0);
        due(32, "0 below", Texts.on("curve 3 3;").same(1), 1);
        due(32, "a fraction above", Texts.on("curve 1 -6;").same(0), 256L * 19 * 19 * 19 / 4);
        due(32, "a fraction below", Texts.on("curve 1 -6;").same(1), 36 * 25 / 4);
        due(32, "both signs go", Texts.on("curve 1 1;").same(0), 2048);
        due(32, "the sign is above", Texts.on("curve 5 7;").same(0), -16384);
        due(32, "and not below", Texts.on("curve 5 7;").same(1), 147);
        due(32, "below stays above 0", Texts.on("curve 1 1;").same(1), 3);
        due(32, "what 2", x.same(2), NO_SUCH);
        due(33, "beside", x.goesBeside(), 5);
        due(33, "its a", x.count(0), 0);
        due(33, "its b", x.count(1), 8);
        due(33, "its M", x.count(2), 10);
        CurvePoints far = Texts.on("curve 31 200;");
        due(33, "a out of bounds", far.goesBeside(), -5);
        due(33, "stays", far.count(0), 31);
        due(33, "b out of bounds", Texts.on("curve 0 -51;").goesBeside(), -5);
        due(33, "b just in them", Texts.on("curve 0 -50 within 1 1;").goesBeside() >= 0 ? 1 : 0, 1);
        CurvePoints y = Texts.on("curve 1 -6 within 30 2;");
        due(34, "turned by 0", y.twists(0), -2);
        due(34, "by 10", y.twists(10), -2);
        due(34, "by -10", y.twists(-10), -2);
        due(34, "by 6, b out of bounds", y.twists(6), -5);
        due(34, "by -5", y.twists(-5) >= 0 ? 1 : 0, 1);
        due(34, "its a", y.count(0), -5);
        due(34, "its b", y.count(1), -150);
        due(34, "a out of bounds", Texts.on("curve 31 1;").twists(2), -5);
        due(34, "a at its bound, by 2", Texts.on("curve 30 -50 within 1 1;").twists(2) >= 0 ? 1 : 0, 1);
        due(34, "both at their bounds, by -2", Texts.on("curve 30 50 within 1 1;").twists(-2) >= 0 ? 1 : 0, 1);
        due(34, "by 9", Texts.on("curve 0 1 within 1 1;").twists(9) >= 0 ? 1 : 0, 1);
        due(34, "by -9", Texts.on("curve 0 1 within 1 1;").twists(-9) >= 0 ? 1 : 0, 1);
        due(35, "within", x.within(200, 1), 5);
        due(35, "M", x.count(2), 200);
        due(35, "E", x.count(3), 1);
        for (int[] pair : new int[][] {{0, 1}, {1001, 1}, {1, 0}, {1, 7}, {-1, 1}}) due(35, "out", x.within(pair[0], pair[1]), -2);
        due(35, "stays", x.count(2), 200);
        due(35, "the widest", Texts.on("curve 17 -105;").within(1000, 6), 73);
        due(35, "the narrowest: (-1, -11) (-1, 11) (0, 0)", Texts.on("curve 17 -105;").within(1, 1), 3);
    }

    private static void undoing() {
        CurvePoints x = two();
        due(49, "none", x.undo(), NONE);
        x.within(5, 1);
        x.goesBeside();
        due(49, "refused ones", x.within(0, 0) + x.twists(0) + x.twists(9), -2 - 2 - 5);
        x.twists(2);
        due(49, "twists", x.undo(), 2);
        due(49, "b", x.count(1), 8);
        due(49, "goesBeside", x.undo(), 1);
        due(49, "b", x.count(1), -2);
        due(49, "M", x.count(2), 5);
        due(49, "within", x.undo(), 0);
        due(49, "M", x.count(2) * 10 + x.count(3), 102);
        due(49, "points", x.count(4), 7);
        due(49, "none more", x.undo(), NONE);
        for (int k = 1; k <= 12; k++) x.within(k, 1);
        for (int k = 9; k >= 0; k--) {
            due(49, "of ten", x.undo(), k);
            due(49, "M of ten", x.count(2), k + 2);
        }
        due(49, "the eleventh is gone", x.undo(), NONE);
        due(49, "M", x.count(2), 2);
        x.within(7, 1);
        due(49, "a fault leaves them", Texts.curve(x, "curve"), -4);
        due(49, "there still", x.undo(), 0);
        x.within(7, 1);
        Texts.curve(x, "curve 0 -2;");
        due(49, "none of another curve", x.undo(), NONE);
    }

    private static void telling() {
        CurvePoints x = two();
        due(37, "empty", x.octet(0), NONE);
        due(36, "a fraction", x.tell(5), 12);
        dueText(36, "a fraction", Texts.out(x), "(9/4, -21/8)");
        due(36, "a whole one", x.tell(0), 8);
        dueText(36, "a whole one", Texts.out(x), "(-1, -1)");
        due(36, "(0, 0)", x.tell(2), 6);
        dueText(36, "(0, 0)", Texts.out(x), "(0, 0)");
        due(37, "byte 0", x.octet(0), '(');
        due(37, "byte 5", x.octet(5), ')');
        due(37, "byte 6", x.octet(6), NONE);
        due(37, "byte -1", x.octet(-1), NONE);
        due(37, "least", x.octet(LEAST), NONE);
        due(36, "no such", x.tell(7), -2);
        Texts.curve(x, "curve 5 6;");
        dueText(37, "stays", Texts.out(x), "(0, 0)");
        due(36, "zero", x.tell(ZERO), 1);
        dueText(36, "zero", Texts.out(x), "0");
        String[][] curves = {
            {"0 -2", "yy=xxx-2x"}, {"1 1", "yy=xxx+xx+x"}, {"-1 -1", "yy=xxx-xx-x"}, {"-60 200", "yy=xxx-60xx+200x"},
            {"10 -100", "yy=xxx+10xx-100x"}, {"0 1", "yy=xxx+x"}
        };
        for (String[] pair : curves) {
            CurvePoints y = Texts.on("curve " + pair[0] + ";");
            due(57, pair[0], y.tellCurve(), pair[1].length());
            dueText(57, pair[0], Texts.out(y), pair[1]);
            due(6, "out of " + pair[0], y.count(6), pair[1].length());
        }
    }

    private static void parts() {
        CurvePoints x = six();
        due(38, "half of 1", x.half(1, 0), 2);
        due(38, "the next", x.half(1, 1), 3);
        due(38, "not so many", x.half(1, 2), NONE);
        due(38, "none", x.half(3, 0), NONE);
        due(38, "of zero", x.half(ZERO, 0), 0);
        due(38, "of zero, the next", x.half(ZERO, 1), NONE);
        due(38, "k -1", x.half(1, -1), -2);
        due(38, "no such", x.half(5, 0), -2);
        due(56, "of 1: 2, then 4", x.deep(1), 3);
        due(56, "of 3", x.deep(3), 1);
        due(56, "of zero", x.deep(ZERO), -2);
        due(56, "no such", x.deep(5), -2);
        due(56, "of eight", eight().deep(0), 3);
        due(39, "one of order 3", x.straight(1, 1, 1), 1);
        due(39, "three unlike", x.straight(0, 1, 3), 1);
        due(39, "turned about", x.straight(3, 1, 0), 1);
        due(39, "not so", x.straight(0, 1, 4), 0);
        due(39, "with zero", x.straight(1, ZERO, 2), 1);
        due(39, "with zero, not so", x.straight(1, ZERO, 1), 0);
        due(39, "zeros", x.straight(ZERO, ZERO, ZERO), 1);
        due(39, "two of zero", x.straight(ZERO, ZERO, 0), 0);
        due(39, "no such", x.straight(0, 1, 5), -2);
        CurvePoints t = two();
        due(39, "the sum of two is far", t.straight(5, 5, 5), 0);
        due(40, "six", x.lines(), 2);
        due(40, "two", t.lines(), 2);
        due(40, "eight", eight().lines(), 4);
        due(40, "five", five().lines(), 7);
        for (int i = 0; i < 7; i++) due(41, "b below 0, " + i, t.part(i), i < 3 ? 1 : 0);
        due(41, "zero", t.part(ZERO), 0);
        due(41, "no such", t.part(7), -2);
        for (int i = 0; i < 5; i++) due(41, "one part alone, " + i, x.part(i), 0);
        CurvePoints above = Texts.on("curve -5 4 within 100 4;");
        due(41, "(0, 0) below two roots", above.part(above.at(0, 1, 0)), 1);
        due(41, "(1, 0)", above.part(above.at(1, 1, 0)), 1);
        due(41, "(4, 0)", above.part(above.at(4, 1, 0)), 0);
        CurvePoints below = Texts.on("curve 5 4 within 100 4;");
        due(41, "(-4, 0)", below.part(below.at(-4, 1, 0)), 1);
        due(41, "(-1, 0)", below.part(below.at(-1, 1, 0)), 1);
        due(41, "(0, 0) above two roots", below.part(below.at(0, 1, 0)), 0);
        due(46, "till zero", x.walk(1), 2);
        due(46, "till zero of 6", x.walk(3), 5);
        due(46, "till far", t.walk(1), 2);
        due(46, "of zero", t.walk(ZERO), 0);
        due(46, "no such", t.walk(7), -2);
    }

    private static void places() {
        CurvePoints x = two();
        due(47, "all", x.between(-9999, 9999, 1), 7);
        due(47, "ends count", x.between(-1, 2, 1), 5);
        due(47, "9 by 4", x.between(9, 9, 4), 2);
        due(47, "just below", x.between(9, 224, 99), 4);
        due(47, "turned about", x.between(2, -1, 1), 0);
        for (int[] row : new int[][] {{-10000, 0, 1}, {0, 10000, 1}, {0, 1, 0}, {0, 1, 100}, {10000, 1, 1}, {0, -10000, 1}, {0, 1, -1}}) {
            due(47, "out", x.between(row[0], row[1], row[2]), -2);
        }
        due(48, "at 0", x.nearest(0, 1), 2);
        due(48, "half way, the first", x.nearest(-1, 2), 0);
        due(48, "near 9 by 4", x.nearest(17, 8), 3);
        due(48, "nearer to 9 by 4", x.nearest(18, 8), 5);
        due(48, "far above", x.nearest(9999, 1), 5);
        due(48, "far below", x.nearest(-9999, 1), 0);
        for (int[] row : new int[][] {{10000, 1}, {-10000, 1}, {0, 0}, {0, 100}, {0, LEAST}}) due(48, "out", x.nearest(row[0], row[1]), -2);
        due(63, "e 1", x.sorts(1, 0), 5);
        due(63, "e 2", x.sorts(2, 0), 2);
        due(63, "e 6", x.sorts(6, 0), 0);
        due(63, "e 0", x.sorts(0, 0), -2);
        due(63, "e 7", x.sorts(7, 0), -2);
        due(63, "roots", x.sorts(7, 1), 5);
        due(63, "what 2", x.sorts(1, 2), -2);
        due(63, "what -1", x.sorts(1, -1), -2);
    }

    private static void overs() {
        CurvePoints x = two();
        // yy = xxx + 8 x: (0, 0) (1, -3) (1, 3) (8, -24) (8, 24)
        int[][] all = {{0, 0, 1}, {1, -3, 1}, {1, 3, 1}, {8, -24, 1}, {8, 24, 1}};
        due(50, "how many", x.overMany(), 5);
        for (int j = 0; j < all.length; j++) {
            for (int what = 0; what < 3; what++) due(51, "point " + j + " " + what, x.overPoint(j, what), all[j][what]);
        }
        due(51, "what 3", x.overPoint(0, 3), NO_SUCH);
        due(51, "no such", x.overPoint(5, 0), NO_SUCH);
        due(51, "zero", x.overPoint(ZERO, 0), NO_SUCH);
        due(52, "(-1, -1) to (1, 3)", x.over(0), 2);
        due(52, "(-1, 1) to (1, -3)", x.over(1), 1);
        due(52, "(2, 2) to (1, -3)", x.over(4), 1);
        due(52, "x 0", x.over(2), ZERO);
        due(52, "zero", x.over(ZERO), ZERO);
        due(52, "far", x.over(5), FAR);
        due(52, "no such", x.over(7), -2);
        due(52, "y 0", five().over(0), 0);
        due(53, "(1, -3) to (9/4, -21/8)", x.back(1), 5);
        due(53, "(8, 24) to (9/4, ..)", x.back(4), 5);
        due(53, "x 0", x.back(0), ZERO);
        due(53, "zero", x.back(ZERO), ZERO);
        due(53, "no such", x.back(5), -2);
        due(53, "no such below", x.back(-1), -2);
        for (int i = 0; i < 5; i++) if (i != 2) due(53, "over and back is twice, " + i, x.back(x.over(i)), x.sum(i, i));
        x.within(8, 1);
        due(53, "far", x.back(1), FAR);
        CurvePoints wide = Texts.on("curve 60 -200;");
        due(50, "out of its bounds, too", wide.overMany() >= 1 ? 1 : 0, 1);
        due(51, "(0, 0) there", wide.overPoint(0, 2), 1);
    }

    private static void turns() {
        int all = 0;
        for (int d = -9; d <= 9; d++) if (d != 0) all |= 1 << (9 + d);
        CurvePoints x = Texts.on("curve 0 -1;");
        due(60, "0 by all", x.turnsRank(0), all);
        // Of the curves turned by 1 .. 9 just those by 5, 6 and 7 have a rank of 1: these are areas of triangles with fractions.
        due(60, "1 by 5, 6, 7", x.turnsRank(1), 1 << 14 | 1 << 15 | 1 << 4 | 1 << 3 | sevens(x));
        due(60, "2 by none", x.turnsRank(2), 0);
        due(60, "9 by none", x.turnsRank(9), 0);
        due(60, "10", x.turnsRank(10), -2);
        due(60, "-1", x.turnsRank(-1), -2);
        CurvePoints y = Texts.on("curve 20 40;");
        due(60, "those in bounds", y.turnsRank(0), 1 << 7 | 1 << 8 | 1 << 10 | 1 << 11);
    }

    /** By 7 the least M and e are beyond 20 or not: what rank() tells of the turned curve decides. */
    private static int sevens(CurvePoints x) {
        x.twists(7);
        int bits = x.rank(0) >= 1 ? 1 << 16 | 1 << 2 : 0;
        x.undo();
        return bits;
    }

    /** Without a CURVE each call that has a point, a what or a number refuses, whatever it is given. */
    private static void refusals() {
        for (Method method : CurvePoints.class.getDeclaredMethods()) {
            String name = method.getName();
            if (!Modifier.isPublic(method.getModifiers()) || java.util.List.of("feed", "end", "curve", "fault", "octet").contains(name)) continue;
            CurvePoints x = new CurvePoints();
            for (int value : new int[] {0, 1, 3, 1000, LEAST, MOST}) {
                Object[] arguments = new Object[method.getParameterCount()];
                java.util.Arrays.fill(arguments, value);
                if (name.equals("count") && value != 0) continue;
                try {
                    long got = ((Number) method.invoke(x, arguments)).longValue();
                    due(1, name + " " + value + " without a curve", got, method.getReturnType() == long.class ? NO_SUCH : -2);
                } catch (IllegalAccessException | InvocationTargetException e) {
                    due(1, name + " threw " + e.getCause(), 1, 0);
                }
            }
        }
    }

    public static void main(String[] args) {
        texts();
        faults();
        counts();
        sums();
        orders();
        formulas();
        primes();
        groups();
        classes();
        heights();
        making();
        besides();
        undoing();
        telling();
        parts();
        places();
        overs();
        turns();
        refusals();
        System.out.println(asked + " answers asked, " + wrong + " not as due");
        if (wrong != 0) System.exit(1);
    }
}
