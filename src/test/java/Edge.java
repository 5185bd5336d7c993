import java.io.IOException;
import java.nio.file.Files;
import java.nio.file.Path;

/**
 * What the tests of sentences share. Each check stands under a sentence of the document, which is looked up there,
 * so that none is tested that the document does not say; at the end none may be left that no test has named.
 */
final class Edge {
    interface Call {
        long on(CurvePoints x);
    }

    interface Setup {
        CurvePoints make();
    }

    static final long NO_SUCH = CurvePoints.NO_SUCH;
    static final int NONE = CurvePoints.NONE;
    static final int FAR = CurvePoints.FAR;
    static final int ZERO = CurvePoints.ZERO;
    static final int LEAST = Integer.MIN_VALUE;
    static final int MOST = Integer.MAX_VALUE;
    static final int TERMS = 0;
    static final int WHAT_IT_IS = 64;

    private static final String[] SECTIONS = sections();
    /** The same texts with what was named blotted out. */
    private static final String[] UNNAMED = SECTIONS.clone();
    private static String where = "";
    private static int sentences = 0;
    private static int asked = 0;
    private static int wrong = 0;

    private Edge() {
    }

    /** What the document says in its terms, in each promise, and of what it is. */
    private static String[] sections() {
        try {
            String document = Files.readString(Path.of("../shared/DOC.md")).replaceAll("\\s+", " ");
            String[] all = new String[65];
            all[TERMS] = between(document, "## Terms", "## Promise 1:");
            for (int k = 1; k < 63; k++) all[k] = between(document, "## Promise " + k + ":", "## Promise " + (k + 1) + ":");
            all[63] = between(document, "## Promise 63:", "## Not promised");
            all[WHAT_IT_IS] = between(document, "## What it is", "## The public face");
            return all;
        } catch (IOException e) {
            throw new IllegalStateException(e);
        }
    }

    private static String between(String text, String first, String behind) {
        return text.substring(text.indexOf(first), text.indexOf(behind));
    }

    /** What is checked from here on is what this sentence says. */
    static void says(int section, String sentence) {
        where = (section == TERMS ? "terms" : section == WHAT_IT_IS ? "what it is" : "promise " + section) + ": " + sentence;
        sentences++;
        int start = SECTIONS[section].indexOf(sentence);
        if (start < 0) {
            fail("is not in the document");
            return;
        }
        int stop = start + sentence.length();
        UNNAMED[section] = UNNAMED[section].substring(0, start) + "~".repeat(sentence.length()) + UNNAMED[section].substring(stop);
    }

    private static void fail(String what) {
        wrong++;
        System.out.println(where + " | " + what);
    }

    static void due(String what, long got, long want) {
        asked++;
        if (got != want) fail(what + " answered " + got + ", due is " + want);
    }

    static void dueText(String what, String got, String want) {
        asked++;
        if (!got.equals(want)) fail(what + " told " + got + ", due is " + want);
    }

    /** The call answers so, and all that can be seen of the object is as if there had been no call. */
    static void stays(String what, Setup setup, Call call, long want) {
        CurvePoints asked = setup.make();
        due(what, call.on(asked), want);
        dueText(what + ", what stays", seen(asked), seen(setup.make()));
    }

    static void stays(String what, Call call, long want) {
        stays(what, Edge::busy, call, want);
    }

    /**
     * The seven POINTS (-1, -1) (-1, 1) (0, 0) (2, -2) (2, 2) (9/4, -21/8) (9/4, 21/8), two changes that undo()
     * can take back, a FAULT, something in OUT, and the text of another CURVE on the TAPE.
     */
    static CurvePoints busy() {
        CurvePoints x = Texts.on("curve 0 -2 within 7 1;");
        x.within(10, 1);
        x.within(10, 2);
        x.tell(5);
        Texts.formula(x, "p99");
        Texts.put(x, "curve 5 6 within 30 3;");
        return x;
    }

    /** All that can be seen; what takes the object apart (undo, reading the TAPE) comes last. */
    static String seen(CurvePoints x) {
        StringBuilder all = new StringBuilder();
        all.append("fault ").append(x.fault(0)).append(' ').append(x.fault(1));
        all.append(" out ").append(Texts.out(x)).append(" tape ").append(x.count(5));
        all.append(' ').append(seenCurve(x)).append(seenPast(x));
        long read = x.curve();
        all.append(" read ").append(read).append(' ').append(x.fault(0)).append(' ').append(x.fault(1));
        return all.append(' ').append(seenCurve(x)).toString();
    }

    static String seenCurve(CurvePoints x) {
        StringBuilder all = new StringBuilder("curve");
        for (int what = 0; what <= 4; what++) all.append(' ').append(x.count(what));
        for (int i = 0; i < x.count(4) && i < 9; i++) {
            all.append(" (").append(x.point(i, 0)).append(' ').append(x.point(i, 1)).append(' ').append(x.point(i, 2)).append(')');
        }
        return all.append(" beside ").append(x.overMany()).append(" rank ").append(x.rank(0)).append(x.rank(1)).toString();
    }

    static String seenPast(CurvePoints x) {
        StringBuilder all = new StringBuilder();
        int left = x.undo();
        all.append(" undo ").append(left);
        for (int k = 0; k < 12 && left >= 0; k++) {
            for (int what = 0; what <= 4; what++) all.append(' ').append(x.count(what));
            left = x.undo();
            all.append(" undo ").append(left);
        }
        return all.toString();
    }

    /** What is left of a section, but for its title, the call's face, numerals, and the fences of texts. */
    private static String unnamed(int section) {
        String left = UNNAMED[section].replaceAll("^## (Terms|What it is|Promise \\d+: [^`]*`[^`]*`:)", "");
        if (section == WHAT_IT_IS) left = left.replaceAll("^ Points with fractions on curves [^~]*", "");
        return left.replaceAll("```text|\\b(I|II|III|IV)\\.", "").replaceAll("[^A-Za-z0-9]*~[^A-Za-z0-9]*|^[^A-Za-z0-9]+", " ").trim();
    }

    static void close() {
        for (int section = 0; section < SECTIONS.length; section++) {
            if (unnamed(section).isEmpty()) continue;
            wrong++;
            System.out.println("section " + section + ", not tested: " + unnamed(section));
        }
        System.out.println(sentences + " sentences, " + asked + " checks, " + wrong + " not as due");
        if (wrong != 0) System.exit(1);
    }
}
