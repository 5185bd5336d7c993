/** The boundary sentences of the TAPE, the TOKENS, the FAULTS, the FORMULAS and OUT. */
final class TextEdges {
    private TextEdges() {
    }

    static void run() {
        newObject();
        feeding();
        ending();
        curveBounds();
        tokens();
        faultOrder();
        curveStays();
        faultTold();
        counting();
        formulaBounds();
        formulaFar();
        formulaFaults();
        formulaRefused();
        telling();
        tellingCurves();
        octets();
    }

    /** A text read as a CURVE by an object that has another one: answer, FAULT and place. */
    private static void read(String text, int fault, int place) {
        CurvePoints x = Edge.busy();
        int answer = Texts.curve(x, text);
        Edge.due(text, answer, fault == 0 ? x.count(4) : -4);
        Edge.due(text + " fault", x.fault(0), fault);
        Edge.due(text + " place", x.fault(1), place);
    }

    private static void taken(String text, int a, int b, int most, int deepest) {
        read(text, 0, Edge.NONE);
        CurvePoints x = Texts.on(text);
        int[] want = {a, b, most, deepest};
        for (int what = 0; what < 4; what++) Edge.due(text + " count " + what, x.count(what), want[what]);
    }

    private static void newObject() {
        Edge.says(1, "No CURVE.");
        CurvePoints x = new CurvePoints();
        for (int what = 0; what <= 3; what++) Edge.due("count " + what, x.count(what), Edge.NO_SUCH);
        for (int what = 4; what <= 6; what++) Edge.due("count " + what, x.count(what), 0);
        Edge.due("point(0, 0)", x.point(0, 0), Edge.NO_SUCH);
        Edge.due("order(1000)", x.order(Edge.ZERO), -2);
        Edge.due("octet(0)", x.octet(0), Edge.NONE);
        Edge.due("an empty tape is no curve", x.curve(), -4);
        Edge.due("after it, too", x.count(0), Edge.NO_SUCH);
        Edge.says(Edge.TERMS, "-2 (where nothing else is told): there is no CURVE, no such POINT (of the LIST, 1000), what, number as told; ahead of others");
        Edge.stays("undo() of a new object", CurvePoints::new, CurvePoints::undo, -2);
        Edge.stays("half(0, 0) of it", CurvePoints::new, y -> y.half(0, 0), -2);
        Edge.stays("makers(0) of it", CurvePoints::new, y -> y.makers(0), -2);
        Edge.stays("shows(0) of it", CurvePoints::new, y -> y.shows(0), -2);
        Edge.stays("above(1000) of it", CurvePoints::new, y -> y.above(1000), -2);
        Edge.stays("at(5, 1, 1) of it", CurvePoints::new, y -> y.at(5, 1, 1), -2);
        Edge.stays("twists(9) of it", CurvePoints::new, y -> y.twists(9), -2);
        Edge.stays("goesBeside() of it", CurvePoints::new, CurvePoints::goesBeside, -2);
        Edge.stays("within(5, 5) of it", CurvePoints::new, y -> y.within(5, 5), -2);
        Edge.stays("tell(1000) of it", CurvePoints::new, y -> y.tell(Edge.ZERO), -2);
        Edge.stays("tellCurve() of it", CurvePoints::new, CurvePoints::tellCurve, -2);
        Edge.says(Edge.TERMS, "The constants: `FAR = -6`: A POINT that is not in the LIST.");
        Edge.due("FAR", Edge.FAR, -6);
        Edge.says(Edge.TERMS, "`ZERO = 1000`: The number of ZERO.");
        Edge.due("ZERO", Edge.ZERO, 1000);
        Edge.says(Edge.TERMS, "`NO_SUCH = Long.MIN_VALUE`: What is told for none such where numbers may be below 0.");
        Edge.due("NO_SUCH", Edge.NO_SUCH, Long.MIN_VALUE);
    }

    private static CurvePoints tape(int bytes) {
        CurvePoints x = Texts.on("curve 0 -2;");
        for (int k = 0; k < 10; k++) x.feed(0x20202020, 0x20202020, 0x20202020, 0x20202020, 0x20202020);
        x.end(bytes);
        return x;
    }

    private static void feeding() {
        Edge.says(2, "Twenty bytes come behind the TAPE, four of each number, the highest first");
        CurvePoints x = Texts.on("curve 0 -2;");
        // "curve 1 2within 3 4;" is twenty bytes long.
        Edge.due("on an empty tape", x.feed(0x63757276, 0x65203120, 0x32776974, 0x68696e20, 0x3320343b), 20);
        Edge.due("its curve", x.curve(), x.count(4));
        for (int what = 0; what < 4; what++) Edge.due("each byte at its place, " + what, x.count(what), what + 1);
        for (int byteAt = 0; byteAt < 20; byteAt++) {
            int[] five = {0x20202020, 0x20202020, 0x20202020, 0x20202020, 0x20202020};
            five[byteAt / 4] |= 0xff << 24 - byteAt % 4 * 8;
            x.feed(five[0], five[1], five[2], five[3], five[4]);
            x.curve();
            Edge.due("a byte of 255 at " + byteAt, x.fault(1), byteAt);
        }
        Edge.says(2, "how many it has; NONE, and none come, if it would have more than 200");
        CurvePoints y = new CurvePoints();
        for (int k = 1; k <= 10; k++) Edge.due("feed " + k, y.feed(0, -1, Edge.LEAST, Edge.MOST, 1), 20 * k);
        Edge.due("the eleventh", y.feed(0, 0, 0, 0, 0), Edge.NONE);
        Edge.due("how many then", y.count(5), 200);
        Edge.stays("to 200 and twenty", () -> tape(200), z -> z.feed(1, 2, 3, 4, 5), Edge.NONE);
        Edge.stays("to 201", () -> tape(181), z -> z.feed(1, 2, 3, 4, 5), Edge.NONE);
        Edge.due("to 200", tape(180).feed(1, 2, 3, 4, 5), 200);
        Edge.due("to 199", tape(179).feed(1, 2, 3, 4, 5), 199);
        Edge.due("to 20", tape(0).feed(1, 2, 3, 4, 5), 20);
        Edge.due("to 21", tape(1).feed(1, 2, 3, 4, 5), 21);
    }

    private static void ending() {
        Edge.says(3, "The TAPE has its first n bytes alone: n");
        for (int n : new int[] {200, 199, 100, 1, 0}) {
            CurvePoints x = tape(200);
            Edge.due("to " + n, x.end(n), n);
            Edge.due("then", x.count(5), n);
        }
        Edge.due("an empty one to 0", new CurvePoints().end(0), 0);
        CurvePoints x = new CurvePoints();
        Texts.put(x, "curve 0 -2;;");
        x.end(11);
        Edge.due("what is cut is gone", x.curve(), 9);
        Texts.put(x, "curve 0 -25;");
        x.end(10);
        x.feed(0x3b202020, 0x20202020, 0x20202020, 0x20202020, 0x20202020);
        x.curve();
        Edge.due("what comes then stands there", x.count(1), -2);
        Edge.says(3, "NONE, and nothing happens, if it has not so many, or n is below 0");
        for (int n : new int[] {23, 24, 200, 201, Edge.MOST, -1, -22, Edge.LEAST}) Edge.stays("end " + n, y -> y.end(n), Edge.NONE);
        Edge.stays("as long as it is", y -> y.end(22), 22);
        Edge.stays("1 of an empty one", CurvePoints::new, y -> y.end(1), Edge.NONE);
        Edge.stays("201 of a full one", () -> tape(200), y -> y.end(201), Edge.NONE);
    }

    private static void curveBounds() {
        Edge.says(Edge.TERMS, "a -60 .. 60, b -200 .. 200");
        taken("curve -60 7;", -60, 7, 200, 4);
        taken("curve 60 7;", 60, 7, 200, 4);
        taken("curve 7 -200;", 7, -200, 200, 4);
        taken("curve 7 200;", 7, 200, 200, 4);
        taken("curve 0 1;", 0, 1, 200, 4);
        taken("curve -0 -1;", 0, -1, 200, 4);
        taken("curve -00000000000000000000060 00000000000000000000200;", -60, 200, 200, 4);
        Edge.says(Edge.TERMS, "2 a number out of its bounds, at it.");
        read("curve 61 7;", 2, 6);
        read("curve -61 7;", 2, 7);
        read("curve 7 201;", 2, 8);
        read("curve 7 -201;", 2, 9);
        read("curve 7 - 201;", 2, 10);
        // These are 7 again, if only the last 32 or 64 bits of them are looked at.
        read("curve 4294967303 7;", 2, 6);
        read("curve 18446744073709551623 7;", 2, 6);
        read("curve 7 4294967303;", 2, 8);
        read("curve 7 7 within 4294967303 4;", 2, 17);
        read("curve 7 7 within 7 4294967297;", 2, 19);
        read("curve 1" + "0".repeat(180) + " 7;", 2, 6);
        Edge.says(Edge.TERMS, "neither b nor a a - 4 b being 0");
        taken("curve 2 2;", 2, 2, 200, 4);
        taken("curve 28 195;", 28, 195, 200, 4);
        taken("curve 28 197;", 28, 197, 200, 4);
        taken("curve 28 -196;", 28, -196, 200, 4);
        Edge.says(Edge.TERMS, "3 b, a a - 4 b being 0, at the number of B.");
        read("curve 7 0;", 3, 8);
        read("curve 7 -0;", 3, 9);
        read("curve 7 - 0;", 3, 10);
        read("curve 0 0;", 3, 8);
        read("curve 2 1;", 3, 8);
        read("curve -2 1;", 3, 9);
        read("curve 28 196;", 3, 9);
        read("curve -28 196;", 3, 10);
        Edge.says(Edge.TERMS, "M 1 .. 1000, E 1 .. 6 (200, 4 without).");
        taken("curve 7 7 within 1 1;", 7, 7, 1, 1);
        taken("curve 7 7 within 1000 6;", 7, 7, 1000, 6);
        taken("curve 7 7;", 7, 7, 200, 4);
        read("curve 7 7 within 0 1;", 2, 17);
        read("curve 7 7 within 1001 6;", 2, 17);
        read("curve 7 7 within 1 0;", 2, 19);
        read("curve 7 7 within 1000 7;", 2, 22);
        CurvePoints x = Texts.on("curve 7 7 within 5 2;");
        Texts.curve(x, "curve 8 8;");
        Edge.due("200 again without, after another M", x.count(2), 200);
        Edge.due("4 again without, after another E", x.count(3), 4);
    }

    private static boolean isBlank(int sign) {
        return sign == 32 || sign == 10;
    }

    private static boolean isDigit(int sign) {
        return sign >= 48 && sign <= 57;
    }

    private static boolean isLetter(int sign) {
        return sign >= 97 && sign <= 122;
    }

    private static void tokens() {
        Edge.says(Edge.TERMS, "TOKENS, blanks (32, 10) aside, the longest: words (a .. z), numbers (digits), else single bytes.");
        for (int sign = 0; sign < 256; sign++) {
            // Behind a number: a blank parts, a digit makes it longer, all else is a TOKEN of its own.
            String text = "curve 0 -1" + (char) sign + ";";
            if (isBlank(sign)) read(text, 0, Edge.NONE);
            else if (isDigit(sign)) taken(text, 0, -10 - (sign - 48), 200, 4);
            else read(text, 1, sign == ';' ? 11 : 10);
            // Behind a word: a letter makes it longer, a digit is the number.
            text = "curve" + (char) sign + " 1 ;";
            if (isBlank(sign)) read(text, 1, 9);
            else if (isDigit(sign)) taken(text, sign - 48, 1, 200, 4, sign == 50);
            else if (sign == '-') read(text, 1, 9);
            else read(text, 1, isLetter(sign) ? 0 : 5);
            // Ahead of all.
            text = (char) sign + "curve 0 -1;";
            if (isBlank(sign)) read(text, 0, Edge.NONE);
            else read(text, 1, 0);
            // Behind all.
            text = "curve 0 -1;" + (char) sign;
            if (isBlank(sign)) read(text, 0, Edge.NONE);
            else read(text, 1, 11);
        }
        taken("curve0-1within9 2;", 0, -1, 9, 2);
        taken("curve0 1within9\n2;", 0, 1, 9, 2);
        taken(" \n curve \n - \n 3 \n - \n 4 \n within \n 5 \n 6 \n ; \n ", -3, -4, 5, 6);
        read("curve 0 -1within9;", 1, 17);
        read("curve01;", 1, 7);
        read("curvewithin 0 1;", 1, 0);
        read("cur ve 0 1;", 1, 0);
        read("curve 0 1 with in 9 2;", 1, 10);
        taken(" ".repeat(189) + "curve 3 -5;", 3, -5, 200, 4);
        read(" ".repeat(189) + "curve 3 -50", 1, 200);
        read("curve 3 -5" + " ".repeat(189) + "?", 1, 199);
    }

    private static void taken(String text, int a, int b, int most, int deepest, boolean flat) {
        if (flat) read(text, 3, 7);
        else taken(text, a, b, most, deepest);
    }

    private static void faultOrder() {
        Edge.says(Edge.TERMS, "1 a TOKEN that is none, or can't stand there.");
        String[] tokens = {"curve", "-", "3", "-", "7", "within", "30", "2", ";"};
        StringBuilder text = new StringBuilder();
        for (int k = 0; k < tokens.length; k++) {
            // What is there so far, and then the end, or a TOKEN that can't stand there.
            if (k > 0) read(text.toString(), 1, text.length());
            for (String wrong : new String[] {"?", "+", "curves", "p", "zero", ",", "--", "Curve", ".", "" + (char) 0}) {
                read(text + wrong + " 0 9999", 1, text.length() + (wrong.equals("--") && (k == 1 || k == 3) ? 1 : 0));
            }
            text.append(tokens[k]).append(' ');
        }
        for (String wrong : new String[] {";", "curve", "7", "within", "?"}) read(text + wrong, 1, text.length());
        read("7 curve 0 1;", 1, 0);
        read("curve - - 3 1;", 1, 8);
        read("curve + 3 1;", 1, 6);
        read("curve 3 + 1;", 1, 8);
        read("curve 3 1 within -30 2;", 1, 17);
        read("curve 3 1 within 30 -2;", 1, 20);
        read("curve 3 1 2;", 1, 10);
        read("curve 3 1 within 30 2 2;", 1, 22);
        read("curve 3 1 within 30 2 within 30 2;", 1, 22);
        read("curve 3 1,;", 1, 9);
        Edge.says(Edge.TERMS, "FAULTS, of several the one whose first byte (a TOKEN's; the end's) is least");
        read("", 1, 0);
        read(" ", 1, 1);
        read("curve 0 1 ", 1, 10);
        read("curve 0 1\n\n\n", 1, 12);
        read("curve 61 201 within 0 0", 2, 6);
        read("curve 60 201 within 0 0", 2, 9);
        read("curve 60 200 within 0 0", 2, 20);
        read("curve 60 200 within 1 0", 2, 22);
        read("curve 60 200 within 1 1", 1, 23);
        read("curve 61 0;", 2, 6);
        read("curve 0 0 within 0 0", 3, 8);
        read("curve 0 0 ?", 3, 8);
        read("? curve 0 0;", 1, 0);
        Edge.says(Edge.TERMS, "of one byte the least number");
        // 40 40 - 4 400 and 30 30 - 4 225 are 0, and 400 and 225 are out of their bounds.
        read("curve 40 400;", 2, 9);
        read("curve -30 225;", 2, 10);
    }

    private static void curveStays() {
        Edge.says(4, "The TAPE (empty then) tells the CURVE (in place of another): how many POINTS the LIST has.");
        CurvePoints x = Edge.busy();
        Edge.due("another one", x.curve(), x.count(4));
        Edge.due("its a", x.count(0), 5);
        Edge.due("the tape", x.count(5), 0);
        Edge.due("read again", x.curve(), -4);
        Edge.due("the fewest: (0, 0)", Texts.curve(x, "curve 3 3 within 1 1;"), 1);
        Edge.due("the most", Texts.curve(x, "curve 17 -105 within 1000 6;"), 73);
        Edge.says(4, "-4: a FAULT (all else stays).");
        for (String text : new String[] {"", "curve", "curve 61 1;", "curve 0 0;", "curve 5 6 within 30 7;", "curve 5 6 within 30 3", "curve 5 6;;"}) {
            CurvePoints y = Edge.busy();
            CurvePoints z = Edge.busy();
            Edge.due(text, Texts.curve(y, text), -4);
            Edge.due(text + ", the tape", y.count(5), 0);
            Edge.dueText(text + ", out", Texts.out(y), Texts.out(z));
            Edge.dueText(text + ", the curve", Edge.seenCurve(y), Edge.seenCurve(z));
            Edge.dueText(text + ", what undo() brings back", Edge.seenPast(y), Edge.seenPast(z));
        }
        CurvePoints none = new CurvePoints();
        Texts.curve(none, "curve 5 6");
        Edge.due("no curve stays none", none.count(0), Edge.NO_SUCH);
    }

    private static void faultTold() {
        Edge.says(5, "Of the latest curve() or formula(), what 0: its FAULT, 0 without, 1: its place (NONE without).");
        CurvePoints x = new CurvePoints();
        Texts.curve(x, "curve 0 0;");
        Edge.due("a curve's", x.fault(0) * 100 + x.fault(1), 308);
        Texts.curve(x, "curve 0 -2 within 10 2;");
        Edge.due("without", x.fault(0), 0);
        Edge.due("without, the place", x.fault(1), Edge.NONE);
        Texts.formula(x, "p1 p2");
        Edge.due("a formula's", x.fault(0) * 100 + x.fault(1), 103);
        Texts.formula(x, "p1+p2");
        Edge.due("a formula without", x.fault(0), 0);
        Edge.due("a formula without, the place", x.fault(1), Edge.NONE);
        Texts.formula(x, "p7");
        Edge.due("2 at a number", x.fault(0) * 100 + x.fault(1), 201);
        x.formula();
        Edge.due("1 at 0, of an empty tape", x.fault(0) * 100 + x.fault(1), 100);
        Texts.formula(x, "p5+p5");
        Edge.due("FAR is no fault", x.fault(0), 0);
        Edge.says(5, "NONE for another what, and ahead of any (what 1).");
        Edge.due("ahead of any, the fault", new CurvePoints().fault(0), 0);
        Edge.due("ahead of any, its place", new CurvePoints().fault(1), Edge.NONE);
        for (int what : new int[] {-1, 2, Edge.LEAST, Edge.MOST}) {
            Edge.stays("what " + what, y -> y.fault(what), Edge.NONE);
            Edge.stays("ahead of any, what " + what, CurvePoints::new, y -> y.fault(what), Edge.NONE);
        }
    }

    private static void counting() {
        Edge.says(6, "0 a, 1 b, 2 M, 3 E, 4 POINTS of the LIST, 5 bytes of the TAPE, 6 of OUT.");
        long[] want = {0, -2, 10, 2, 7, 22, 12};
        for (int what = 0; what <= 6; what++) Edge.due("count " + what, Edge.busy().count(what), want[what]);
        Edge.due("a full tape", tape(200).count(5), 200);
        Edge.says(6, "NO_SUCH for others; of 0 .. 3 without a CURVE.");
        for (int what : new int[] {-1, 7, Edge.LEAST, Edge.MOST}) {
            Edge.stays("count " + what, x -> x.count(what), Edge.NO_SUCH);
            Edge.stays("count " + what + " without a curve", CurvePoints::new, x -> x.count(what), Edge.NO_SUCH);
        }
        for (int what = 0; what <= 3; what++) {
            int asked = what;
            Edge.stays("count " + what + " without a curve", CurvePoints::new, x -> x.count(asked), Edge.NO_SUCH);
        }
        Edge.due("POINTS without a curve", new CurvePoints().count(4), 0);
    }

    /** A FORMULA told to the seven POINTS of Edge.busy(). */
    private static void worth(String text, int want) {
        CurvePoints x = Edge.busy();
        Edge.due(text, Texts.formula(x, text), want);
        Edge.due(text + ", the tape", x.count(5), 0);
        if (want != -4) Edge.due(text + ", no fault", x.fault(0), 0);
    }

    private static void broken(String text, int fault, int place) {
        CurvePoints x = Edge.busy();
        CurvePoints z = Edge.busy();
        Edge.due(text, Texts.formula(x, text), -4);
        Edge.due(text + ", the tape", x.count(5), 0);
        Edge.due(text + ", the fault", x.fault(0), fault);
        Edge.due(text + ", its place", x.fault(1), place);
        Edge.dueText(text + ", out", Texts.out(x), Texts.out(z));
        Edge.dueText(text + ", the curve", Edge.seenCurve(x) + Edge.seenPast(x), Edge.seenCurve(z) + Edge.seenPast(z));
    }

    private static void formulaBounds() {
        Edge.says(15, "a TERM being [NUMBER] p NUMBER (how many TIMES, 0 .. 20, 1 without; a POINT of the LIST) or the word zero (ZERO)");
        worth("p0", 0);
        worth("p6", 6);
        worth("0p6", Edge.ZERO);
        worth("1p6", 6);
        worth("20p2", Edge.ZERO);
        worth("19p2", 2);
        worth("000000000000000000000000000002p00000000000000000000000000000001", 5);
        worth("zero", Edge.ZERO);
        worth("-zero", Edge.ZERO);
        worth("p1+zero", 1);
        worth("zero-p1", 0);
        worth("p\n1+\n2 p\n2", 1);
        Edge.says(15, "2: a NUMBER above 20, a POINT not in the LIST, at the NUMBER");
        broken("21p2", 2, 0);
        broken("-21p2", 2, 1);
        broken("p2+21p2", 2, 3);
        broken("4294967297p2", 2, 0);
        broken("18446744073709551617p2", 2, 0);
        broken("p7", 2, 1);
        broken("p 999", 2, 2);
        broken("p1000", 2, 1);
        broken("p4294967297", 2, 1);
        broken("p1-20p7", 2, 6);
        CurvePoints one = Texts.on("curve 3 3 within 1 1;");
        Edge.due("the one POINT", Texts.formula(one, "p0"), 0);
        Edge.due("behind it", Texts.formula(one, "p1"), -4);
        StringBuilder longest = new StringBuilder("p2");
        while (longest.length() < 200) longest.append("+p2");
        worth(longest.substring(0, 200), 2);
        broken(longest.substring(0, 197) + "  +", 1, 200);
    }

    private static void formulaFar() {
        Edge.says(15, "Its worth, from the left: each TERM TIMES, behind - what comes TURNED, then the SUM of what is there and that");
        worth("p1", 1);
        worth("-p1", 0);
        worth("-2p1", 6);
        worth("-0p1", Edge.ZERO);
        worth("p1-p1", Edge.ZERO);
        worth("p1-p0", 5);
        worth("2p1-p1", 1);
        worth("-2p1+p1", 0);
        Edge.says(15, "the POINT; FAR, if some of it is.");
        worth("3p1", Edge.FAR);
        worth("-3p1", Edge.FAR);
        worth("3p1-3p1", Edge.FAR);
        worth("zero+3p1", Edge.FAR);
        worth("3p1+zero", Edge.FAR);
        worth("p1+p1+p1", Edge.FAR);
        worth("p1+p1+p1-p1", Edge.FAR);
        worth("p1+p1-p1+p1", 5);
        worth("p1-p1+p1", 1);
        worth("3p1+p99", -4);
        CurvePoints eight = Texts.on("curve -14 81 within 9 2;");
        // 3 times (3, 12) has x 27, 7 times it is (3, -12) again.
        Edge.due("FAR on the way", Texts.formula(eight, "7p2"), Edge.FAR);
    }

    private static void formulaFaults() {
        Edge.says(15, "-4: a FAULT (as in I;");
        broken("", 1, 0);
        broken("\n \n", 1, 3);
        for (String wrong : new String[] {"+", "?", "q", "pp", "zeros", "zerop1", ";", "P", "curve", "" + (char) 0, "" + (char) 255}) {
            broken(wrong, 1, 0);
            broken("-" + wrong, 1, 1);
            broken("3" + wrong, 1, 1);
            broken("p" + wrong + " ", 1, wrong.charAt(0) >= 'a' && wrong.charAt(0) <= 'z' ? 0 : 1);
            broken("p1 + " + wrong, 1, 5);
            if (!wrong.equals("+")) broken("p1 " + wrong, 1, 3);
            if (!wrong.equals("+")) broken("zero " + wrong, 1, 5);
        }
        broken("-", 1, 1);
        broken("--p1", 1, 1);
        broken("p1+-p2", 1, 3);
        broken("p1 -", 1, 4);
        broken("p1 - ", 1, 5);
        broken("p-1", 1, 1);
        broken("-1", 1, 2);
        broken("2 3 p1", 1, 2);
        broken("2zero", 1, 1);
        broken("2 p 1 2", 1, 6);
        broken("p1 zero", 1, 3);
        broken("p7+", 2, 1);
        broken("p6+", 1, 3);
        broken("21", 2, 0);
        broken("21 21 p7", 2, 0);
        for (int sign = 0; sign < 256; sign++) {
            String text = "p1" + (char) sign + "p2";
            if (isBlank(sign)) broken(text, 1, 3);
            else if (isDigit(sign)) broken(text, 2, 1);
            else if (sign == '+' || sign == '-') worth(text, 4);
            else broken(text, 1, 2);
        }
    }

    private static void formulaRefused() {
        Edge.says(15, "-2: there is no CURVE (the TAPE stays)");
        for (String text : new String[] {"p0", "zero", "", "?", "curve 0 -2;"}) {
            Edge.stays(text, () -> {
                CurvePoints x = new CurvePoints();
                Texts.put(x, text);
                return x;
            }, CurvePoints::formula, -2);
        }
        CurvePoints x = new CurvePoints();
        Texts.put(x, "curve 0 -2 within 10 2;");
        x.formula();
        Edge.due("then it is read as a curve", x.curve(), 7);
    }

    private static void tells(CurvePoints x, int i, String want) {
        Edge.due(want, x.tell(i), want.length());
        Edge.dueText("out", Texts.out(x), want);
        Edge.due("bytes of out", x.count(6), want.length());
    }

    private static void telling() {
        Edge.says(36, "A POINT is TOLD in OUT: (, m, behind it / and e e, if e is not 1, a comma and a blank, n, / and e e e likewise, )");
        CurvePoints x = Edge.busy();
        tells(x, 0, "(-1, -1)");
        tells(x, 6, "(9/4, 21/8)");
        tells(x, 5, "(9/4, -21/8)");
        tells(x, 2, "(0, 0)");
        CurvePoints wide = Texts.on("curve -55 -40 within 1000 6;");
        tells(wide, 1, "(1000/9, -22400/27)");
        tells(Texts.on("curve -45 -190 within 1000 6;"), 5, "(1000, -30900)");
        CurvePoints six = Texts.on("curve 0 17 within 1000 6;");
        for (int i = 0; i < six.count(4); i++) {
            long e = six.point(i, 2);
            String under = e == 1 ? "" : "/" + e * e;
            tells(six, i, "(" + six.point(i, 0) + under + ", " + six.point(i, 1) + (e == 1 ? "" : "/" + e * e * e) + ")");
        }
        Edge.says(36, "ZERO as 0: how many bytes. -2.");
        tells(x, Edge.ZERO, "0");
        for (int i : new int[] {-1, 7, 999, 1001, Edge.LEAST, Edge.MOST}) Edge.stays("tell " + i, y -> y.tell(i), -2);
        Edge.stays("without a curve", CurvePoints::new, y -> y.tell(0), -2);
    }

    private static void tellingCurves() {
        Edge.says(57, "The CURVE is TOLD in OUT: yy=xxx, then, if a is not 0, its sign, its size (if that is not 1) and xx, then the sign of b, its size (if that is not 1) and x");
        String[][] all = {
            {"0 1", "yy=xxx+x"}, {"0 -1", "yy=xxx-x"}, {"1 2", "yy=xxx+xx+2x"}, {"-1 -2", "yy=xxx-xx-2x"}, {"2 -1", "yy=xxx+2xx-x"},
            {"-2 -3", "yy=xxx-2xx-3x"}, {"60 200", "yy=xxx+60xx+200x"}, {"-60 -200", "yy=xxx-60xx-200x"}, {"10 -100", "yy=xxx+10xx-100x"},
            {"11 9", "yy=xxx+11xx+9x"}, {"-9 10", "yy=xxx-9xx+10x"}, {"0 -99", "yy=xxx-99x"}
        };
        for (String[] pair : all) {
            CurvePoints x = Texts.on("curve " + pair[0] + ";");
            Edge.due(pair[0], x.tellCurve(), pair[1].length());
            Edge.dueText(pair[0], Texts.out(x), pair[1]);
        }
        Edge.says(57, "how many bytes. -2.");
        Edge.stays("without a curve", CurvePoints::new, CurvePoints::tellCurve, -2);
    }

    private static void octets() {
        Edge.says(37, "Byte i of OUT (what was told in it last by a call that was not refused, whatever came since, a new text, too");
        CurvePoints x = Edge.busy();
        x.tell(7);
        x.tell(-1);
        x.curve();
        Texts.formula(x, "p1");
        x.formula();
        x.twists(2);
        x.goesBeside();
        x.within(5, 5);
        x.undo();
        x.feed(1, 2, 3, 4, 5);
        x.end(0);
        Edge.dueText("whatever came since", Texts.out(x), "(9/4, -21/8)");
        x.tellCurve();
        Edge.dueText("a longer one", Texts.out(x), "yy=xxx-20xx+4x");
        x.tell(Edge.ZERO);
        Edge.dueText("a shorter one", Texts.out(x), "0");
        Edge.due("nothing behind it of what was longer", x.octet(1), Edge.NONE);
        Edge.says(37, "empty ahead of any");
        Edge.due("octet 0", new CurvePoints().octet(0), Edge.NONE);
        Edge.due("bytes", new CurvePoints().count(6), 0);
        Edge.due("a refused one tells nothing", new CurvePoints().tell(Edge.ZERO), -2);
        Edge.says(37, "NONE: there is none such.");
        Edge.due("the first", Edge.busy().octet(0), '(');
        Edge.due("the last", Edge.busy().octet(11), ')');
        for (int i : new int[] {-1, 12, 63, 64, 65, Edge.LEAST, Edge.MOST}) Edge.stays("octet " + i, y -> y.octet(i), Edge.NONE);
    }
}
