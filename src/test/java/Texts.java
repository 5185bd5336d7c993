import java.nio.charset.StandardCharsets;
import java.util.Arrays;

/** Texts put on a TAPE, and read from OUT. */
final class Texts {
    private Texts() {
    }

    /** The five numbers of each feed() that together hold the text, blanks behind it. */
    static int[][] feeds(String text) {
        byte[] bytes = text.getBytes(StandardCharsets.ISO_8859_1);
        int[][] rows = new int[(bytes.length + 19) / 20][5];
        byte[] padded = Arrays.copyOf(bytes, rows.length * 20);
        Arrays.fill(padded, bytes.length, padded.length, (byte) ' ');
        for (int k = 0; k < padded.length; k++) {
            rows[k / 20][k % 20 / 4] = rows[k / 20][k % 20 / 4] << 8 | (padded[k] & 255);
        }
        return rows;
    }

    static void put(CurvePoints x, String text) {
        x.end(0);
        for (int[] row : feeds(text)) x.feed(row[0], row[1], row[2], row[3], row[4]);
        x.end(text.length());
    }

    static int curve(CurvePoints x, String text) {
        put(x, text);
        return x.curve();
    }

    static int formula(CurvePoints x, String text) {
        put(x, text);
        return x.formula();
    }

    static CurvePoints on(String text) {
        CurvePoints x = new CurvePoints();
        curve(x, text);
        return x;
    }

    static String out(CurvePoints x) {
        StringBuilder text = new StringBuilder();
        for (int i = 0; x.octet(i) != CurvePoints.NONE; i++) text.append((char) x.octet(i));
        return text.toString();
    }
}
