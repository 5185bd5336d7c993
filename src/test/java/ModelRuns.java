import java.lang.reflect.Method;
import java.lang.reflect.Modifier;
import java.util.ArrayList;
import java.util.LinkedHashMap;
import java.util.List;
import java.util.Map;
import java.util.Random;

/** Runs of calls, drawn from fixed seeds, whose answers CurvePoints and Model must share. An argument: how many runs (400 without). */
public final class ModelRuns {
    /** What the arguments of each call are drawn as. */
    private static final Map<String, String> KINDS = new LinkedHashMap<>();

    static {
        String[] rows = {
            "fault w", "count w", "point iw", "at mes", "turned i", "sum ii", "of iihw", "times it", "order i", "round w",
            "many p", "orderBy ip", "bound", "trace p", "classes hw", "classOf hkw", "rank h", "classAt i", "bits i",
            "parallel ii", "made ii", "makers k", "related iih", "above H", "upTo H", "beside ih", "same h", "goesBeside",
            "twists d", "within Me", "tell i", "octet k", "half ik", "straight iii", "lines", "part i", "shows k",
            "groupBy ph", "logBy iip", "bestBy ph", "walk i", "between uuv", "nearest uv", "undo", "overMany",
            "overPoint jw", "over i", "back j", "bad p", "solves iiih", "deep i", "tellCurve", "seenBy p", "firstAlike ii",
            "turnsRank d", "breaks P", "traces p", "sorts eh", "end k"
        };
        for (String row : rows) {
            String[] parts = row.split(" ");
            KINDS.put(parts[0], parts.length > 1 ? parts[1] : "");
        }
    }

    private static final String[] CURVES = {
        "0 -2", "0 -25", "0 -36", "0 4", "-14 81", "46 81", "-26 125", "-12 48", "-11 -125", "26 -194", "-60 -161", "49 175",
        "-52 193", "-51 -140", "-32 180", "1 -6", "0 1", "0 -1", "1 1", "0 17", "5 6", "-60 38", "13 -156", "-2 2", "3 -1"
    };

    private final Random random;
    private final CurvePoints due = new CurvePoints();
    private final Model model = new Model();
    private final List<String> told = new ArrayList<>();
    private final List<Method> calls;
    private boolean wrong = false;

    private ModelRuns(long seed, List<Method> calls) {
        random = new Random(seed);
        this.calls = calls;
    }

    private int pick(int least, int most) {
        return least + random.nextInt(most - least + 1);
    }

    private int extreme() {
        int[] all = {Integer.MIN_VALUE, Integer.MAX_VALUE, Integer.MIN_VALUE + 1, -1, 1001, 999, 120, 121, 1 << 16};
        return all[random.nextInt(all.length)];
    }

    private int index(int many) {
        int draw = random.nextInt(20);
        if (draw == 0) return extreme();
        if (draw == 1) return many;
        if (draw <= 3) return 1000;
        return many == 0 ? 0 : random.nextInt(many);
    }

    private int draw(char kind) {
        if (kind != 'i' && kind != 'j' && random.nextInt(60) == 0) return extreme();
        switch (kind) {
            case 'i': return index((int) model.count(4));
            case 'j': return index(Math.max(0, model.overMany()));
            case 'w': return pick(-1, 7);
            case 'h': return random.nextInt(12) == 0 ? pick(-1, 3) : pick(0, 1);
            case 's': return pick(-1, 1);
            case 'm': return random.nextBoolean() ? pick(-20, 20) : (int) Math.max(-2000, model.point(index((int) model.count(4)), 0));
            case 'e': return pick(0, 7);
            case 't': return random.nextInt(8) == 0 ? pick(-22, 22) : pick(-4, 4);
            case 'k': return pick(-2, 16);
            case 'p': return random.nextInt(4) == 0 ? pick(-3, 100) : new int[] {3, 5, 7, 11, 13, 17, 19, 23, 43, 61, 89, 97}[random.nextInt(12)];
            case 'P': return random.nextInt(3) == 0 ? pick(-3, 100) : new int[] {0, 2, 3, 5, 7, 11, 13}[random.nextInt(7)];
            case 'H': return random.nextInt(8) == 0 ? pick(-2, 1003) : pick(1, 60);
            case 'M': return random.nextInt(4) == 0 ? pick(-1, 1002) : pick(1, 120);
            case 'd': return random.nextInt(6) == 0 ? pick(-11, 11) : pick(-3, 3);
            case 'u': return random.nextInt(8) == 0 ? pick(-10002, 10002) : pick(-120, 120);
            case 'v': return random.nextInt(8) == 0 ? pick(-2, 102) : pick(1, 9);
            default: throw new IllegalStateException("no kind " + kind);
        }
    }

    private void call(String name, Object... arguments) {
        try {
            Class<?>[] types = new Class<?>[arguments.length];
            java.util.Arrays.fill(types, int.class);
            long answer = ((Number) CurvePoints.class.getMethod(name, types).invoke(due, arguments)).longValue();
            long want = ((Number) Model.class.getDeclaredMethod(name, types).invoke(model, arguments)).longValue();
            told.add(name + java.util.Arrays.toString(arguments) + " " + answer);
            if (answer == want) return;
            wrong = true;
            System.out.println(String.join("\n", told));
            System.out.println("... due is " + want);
        } catch (ReflectiveOperationException e) {
            wrong = true;
            System.out.println(String.join("\n", told));
            System.out.println(name + java.util.Arrays.toString(arguments) + " threw");
            e.printStackTrace(System.out);
        }
    }

    private void text(String text, String reader) {
        for (int[] row : Texts.feeds(text)) call("feed", row[0], row[1], row[2], row[3], row[4]);
        if (random.nextInt(10) != 0) call("end", (int) model.count(5) - (20 - text.length() % 20) % 20);
        call(reader);
        call("fault", 0);
        call("fault", 1);
    }

    private String curveText() {
        String curve = CURVES[random.nextInt(CURVES.length)];
        int draw = random.nextInt(6);
        if (draw == 0) curve = pick(-60, 60) + " " + pick(-200, 200);
        if (draw == 1) curve = pick(-5, 5) + " " + pick(-12, 12);
        if (random.nextInt(30) == 0) curve = pick(-70, 70) + " " + pick(-250, 250);
        String within = "";
        if (random.nextInt(3) != 0) within = " within " + pick(1, random.nextInt(5) == 0 ? 1003 : 150) + " " + pick(1, random.nextInt(5) == 0 ? 7 : 6);
        return spoiled("curve " + curve + within + ";");
    }

    private String formulaText() {
        StringBuilder text = new StringBuilder(random.nextInt(3) == 0 ? "-" : "");
        int terms = pick(1, 4);
        for (int k = 0; k < terms; k++) {
            if (k > 0) text.append(random.nextBoolean() ? " + " : "-");
            if (random.nextInt(8) == 0) {
                text.append("zero");
                continue;
            }
            if (random.nextInt(3) == 0) text.append(random.nextInt(10) == 0 ? pick(0, 23) : pick(0, 3));
            int many = Math.max(1, (int) model.count(4));
            text.append(random.nextBoolean() ? "p" : " p ").append(random.nextInt(25) == 0 ? many : random.nextInt(many));
        }
        return spoiled(text.toString());
    }

    private String spoiled(String text) {
        if (random.nextInt(8) != 0) return text;
        int at = random.nextInt(text.length() + 1);
        String signs = "az09-+; \n\t#p" + (char) 200 + (char) 0 + (char) 255;
        String sign = "" + signs.charAt(random.nextInt(signs.length()));
        int rest = Math.min(text.length(), at + random.nextInt(3));
        return text.substring(0, at) + (random.nextInt(3) == 0 ? "" : sign) + text.substring(rest);
    }

    private boolean run() {
        int many = pick(60, 140);
        for (int k = 0; k < many && !wrong && told.size() < 500; k++) {
            int draw = random.nextInt(40);
            if (draw == 0 || model.count(0) == Model.NO_SUCH && draw < 20) {
                text(curveText(), "curve");
            } else if (draw <= 3) {
                text(formulaText(), "formula");
            } else if (draw == 4) {
                call("feed", random.nextInt(), random.nextInt(), random.nextInt(), random.nextInt(), random.nextInt());
                if (random.nextInt(3) != 0) call("end", 0);
            } else {
                Method method = calls.get(random.nextInt(calls.size()));
                String kinds = KINDS.get(method.getName());
                Object[] arguments = new Object[kinds.length()];
                for (int i = 0; i < arguments.length; i++) arguments[i] = draw(kinds.charAt(i));
                call(method.getName(), arguments);
            }
        }
        return !wrong;
    }

    public static void main(String[] args) {
        int runs = args.length > 0 ? Integer.parseInt(args[0]) : 400;
        long first = args.length > 1 ? Long.parseLong(args[1]) : 1;
        List<Method> calls = new ArrayList<>();
        for (Method method : CurvePoints.class.getDeclaredMethods()) {
            if (!Modifier.isPublic(method.getModifiers())) continue;
            if (KINDS.containsKey(method.getName())) calls.add(method);
            else if (!List.of("feed", "curve", "formula").contains(method.getName())) throw new IllegalStateException(method.getName());
        }
        calls.sort((x, y) -> x.getName().compareTo(y.getName()));
        int wrong = java.util.stream.LongStream.range(first, first + runs).parallel().mapToInt(seed -> {
            boolean fine = new ModelRuns(seed, calls).run();
            if (!fine) System.out.println("seed " + seed);
            return fine ? 0 : 1;
        }).sum();
        System.out.println(runs + " runs against the model, " + wrong + " wrong");
        if (wrong != 0) System.exit(1);
    }
}
