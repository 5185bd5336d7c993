import java.util.ArrayList;
import java.util.List;
import java.util.stream.IntStream;

/** Curves taken evenly from all of them, each asked all that depends on a and b alone. Arguments: every how-manyth curve, every how-manyth by primes. */
public final class SweepTests {
    private static final int[] PRIMES = {3, 5, 7, 11, 13, 17, 19, 23, 29, 31, 37, 41, 43, 47, 53, 59, 61, 67, 71, 73, 79, 83, 89, 97};

    private final String text;
    private CurvePoints due = new CurvePoints();
    private final Model model = new Model();
    private int wrong = 0;

    private SweepTests(String text) {
        this.text = text;
        for (int[] row : Texts.feeds(text)) model.feed(row[0], row[1], row[2], row[3], row[4]);
        model.end(text.length());
        compare("curve", Texts.curve(due, text), model.curve());
    }

    private void compare(String what, long got, long want) {
        if (got == want) return;
        wrong++;
        System.out.println(text + " " + what + " answered " + got + ", due is " + want);
    }

    private int askClasses() {
        for (int side = 0; side < 2; side++) {
            List<Model.Klass> all = model.side(side);
            compare("classes " + side, due.classes(side, 0), all.size());
            for (int k = 0; k < all.size(); k++) {
                Model.Klass one = all.get(k);
                String name = "class " + side + " " + k + " ";
                compare(name + 0, due.classOf(side, k, 0), one.d());
                compare(name + 1, due.classOf(side, k, 1), one.found() ? 1 : 0);
                compare(name + 2, due.classOf(side, k, 2), one.possible() ? 1 : 0);
                compare(name + 3, due.classOf(side, k, 3), one.made() ? 1 : 0);
                compare(name + 4, due.classOf(side, k, 4), one.found() ? one.firstM() : Model.NO_SUCH);
                compare(name + 5, due.classOf(side, k, 5), one.found() ? one.firstE() : Model.NO_SUCH);
            }
        }
        for (int what = 0; what < 2; what++) {
            compare("rank " + what, due.rank(what), model.rank(what));
            compare("same " + what, due.same(what), model.same(what));
        }
        return wrong;
    }

    private int askPoints() {
        due = Texts.on(text);
        for (int i = 0; i < model.count(4); i++) {
            // An object is used for at most 512 calls.
            if (i % 50 == 49) due = Texts.on(text);
            for (int what = 0; what < 3; what++) compare("point " + i + " " + what, due.point(i, what), model.point(i, what));
            compare("part " + i, due.part(i), model.part(i));
            compare("turned " + i, due.turned(i), model.turned(i));
            compare("bits " + i, due.bits(i), model.bits(i));
            compare("order " + i, due.order(i), model.order(i));
        }
        compare("over many", due.overMany(), model.overMany());
        return wrong;
    }

    private int askPrimes() {
        for (int p : PRIMES) {
            compare("many " + p, due.many(p), model.many(p));
            compare("group " + p, due.groupBy(p, 0), model.groupBy(p, 0));
            compare("best x " + p, due.bestBy(p, 0), model.bestBy(p, 0));
            compare("best y " + p, due.bestBy(p, 1), model.bestBy(p, 1));
            compare("seen " + p, due.seenBy(p), model.seenBy(p));
            compare("bad " + p, due.bad(p), model.bad(p));
            compare("breaks " + p, due.breaks(p), model.breaks(p));
        }
        compare("bound", due.bound(), model.bound());
        return wrong;
    }

    private static List<String> curves(int step) {
        List<String> all = new ArrayList<>();
        int k = 0;
        for (int a = -60; a <= 60; a++) {
            for (int b = -200; b <= 200; b++) {
                if (b != 0 && a * a != 4 * b && k++ % step == 0) all.add("curve " + a + " " + b + " within 1000 6;");
            }
        }
        return all;
    }

    public static void main(String[] args) {
        List<String> wide = curves(args.length > 0 ? Integer.parseInt(args[0]) : 97);
        List<String> slow = curves(args.length > 1 ? Integer.parseInt(args[1]) : 1009);
        int wrong = IntStream.range(0, wide.size()).parallel().map(k -> {
            SweepTests one = new SweepTests(wide.get(k));
            return one.askClasses() + one.askPoints();
        }).sum();
        wrong += IntStream.range(0, slow.size()).parallel().map(k -> new SweepTests(slow.get(k)).askPrimes()).sum();
        System.out.println(wide.size() + " curves swept, " + slow.size() + " by primes, " + wrong + " answers not as due");
        if (wrong != 0) System.exit(1);
    }
}
