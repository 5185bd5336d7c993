import java.io.IOException;
import java.nio.file.Files;
import java.nio.file.Path;
import java.util.Set;
import java.util.TreeSet;

/**
 * What the tests of boundary sentences share. Each check stands under a sentence of the document,
 * which is looked up there, so that none is tested that the document does not say.
 */
final class Edge {
    interface Call {
        long on(CurvePoints x);
    }

    interface Setup {
        CurvePoints make();
    }

    static final long NO_SUCH = CurvePoints.NO_SUCH;
    static final int NONE = CurvePoints.NONE;
    static final int FAR = CurvePoints.FAR;
    static final int ZERO = CurvePoints.ZERO;
    static final int LEAST = Integer.MIN_VALUE;
    static final int MOST = Integer.MAX_VALUE;
    static final int TERMS = 0;

    private static final String[] SECTIONS = sections();
    private static final Set<Integer> PROMISES = new TreeSet<>();
    private static String where = "";
    private static int sentences = 0;
    private static int asked = 0;
    private static int wrong = 0;

    private Edge() {
    }

    /** What the document says in its terms (0) and in each promise. */
    private static String[] sections() {
        try {
            String document = Files.readString(Path.of("../shared/DOC.md")).replaceAll("\\s+", " ");
            String[] all = new String[64];
            all[TERMS] = between(document, "## Terms", "## Promise 1:");
            for (int k = 1; k < 63; k++) all[k] = between(document, "## Promise " + k + ":", "## Promise " + (k + 1) + ":");
            all[63] = between(document, "## Promise 63:", "## Not promised");
            return all;
        } catch (IOException e) {
            throw new IllegalStateException(e);
        }
    }

    private static String between(String text, String first, String behind) {
        return text.substring(text.indexOf(first), text.indexOf(behind));
    }

    /** What is checked from here on is what this sentence says. */
    static void says(int promise, String sentence) {
        where = (promise == TERMS ? "terms" : "promise " + promise) + ": " + sentence;
        sentences++;
        PROMISES.add(promise);
        if (!SECTIONS[promise].contains(sentence)) fail("is not in the document");
    }

    private static void fail(String what) {
        wrong++;
        System.out.println(where + " | " + what);
    }

    static void due(String what, long got, long want) {
        asked++;
        if (got != want) fail(what + " answered " + got + ", due is " + want);
    }

    static void dueText(String what, String got, String want) {
        asked++;
        if (!got.equals(want)) fail(what + " told " + got + ", due is " + want);
    }

    /** The call answers so, and all that can be seen of the object is as if there had been no call. */
    static void stays(String what, Setup setup, Call call, long want) {
        CurvePoints asked = setup.make();
        due(what, call.on(asked), want);
        dueText(what + ", what stays", seen(asked), seen(setup.make()));
    }

    static void stays(String what, Call call, long want) {
        stays(what, Edge::busy, call, want);
    }

    /**
     * The seven POINTS (-1, -1) (-1, 1) (0, 0) (2, -2) (2, 2) (9/4, -21/8) (9/4, 21/8), two changes that undo()
     * can take back, a FAULT, something in OUT, and the text of another CURVE on the TAPE.
     */
    static CurvePoints busy() {
        CurvePoints x = Texts.on("curve 0 -2 within 7 1;");
        x.within(10, 1);
        x.within(10, 2);
        x.tell(5);
        Texts.formula(x, "p99");
        Texts.put(x, "curve 5 6 within 30 3;");
        return x;
    }

    /** All that can be seen; what takes the object apart (undo, reading the TAPE) comes last. */
    static String seen(CurvePoints x) {
        StringBuilder all = new StringBuilder();
        all.append("fault ").append(x.fault(0)).append(' ').append(x.fault(1));
        all.append(" out ").append(Texts.out(x)).append(" tape ").append(x.count(5));
        all.append(' ').append(seenCurve(x)).append(seenPast(x));
        long read = x.curve();
        all.append(" read ").append(read).append(' ').append(x.fault(0)).append(' ').append(x.fault(1));
        return all.append(' ').append(seenCurve(x)).toString();
    }

    static String seenCurve(CurvePoints x) {
        StringBuilder all = new StringBuilder("curve");
        for (int what = 0; what <= 4; what++) all.append(' ').append(x.count(what));
        for (int i = 0; i < x.count(4) && i < 9; i++) {
            all.append(" (").append(x.point(i, 0)).append(' ').append(x.point(i, 1)).append(' ').append(x.point(i, 2)).append(')');
        }
        return all.append(" beside ").append(x.overMany()).append(" rank ").append(x.rank(0)).append(x.rank(1)).toString();
    }

    static String seenPast(CurvePoints x) {
        StringBuilder all = new StringBuilder();
        int left = x.undo();
        all.append(" undo ").append(left);
        for (int k = 0; k < 12 && left >= 0; k++) {
            for (int what = 0; what <= 4; what++) all.append(' ').append(x.count(what));
            left = x.undo();
            all.append(" undo ").append(left);
        }
        return all.toString();
    }

    static void close() {
        for (int k = 1; k <= 63; k++) {
            if (!PROMISES.contains(k)) {
                wrong++;
                System.out.println("no sentence of promise " + k + " is tested");
            }
        }
        System.out.println(sentences + " sentences, " + asked + " checks, " + wrong + " not as due");
        if (wrong != 0) System.exit(1);
    }
}
