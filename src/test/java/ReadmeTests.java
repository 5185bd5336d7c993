import java.io.IOException;
import java.lang.reflect.Method;
import java.nio.file.Files;
import java.nio.file.Path;
import java.util.Arrays;
import java.util.Map;
import java.util.TreeMap;
import java.util.TreeSet;
import java.util.regex.Matcher;
import java.util.regex.Pattern;

/** What README.md shows of the class is so: its example, the constants, each call's face, what it answers when it is refused. */
public final class ReadmeTests {
    private static int asked = 0;
    private static int wrong = 0;

    private ReadmeTests() {
    }

    private static void due(String what, Object got, Object want) {
        asked++;
        if (got.equals(want)) return;
        wrong++;
        System.out.println(what + " is " + got + ", due is " + want);
    }

    private static long call(CurvePoints x, String name, int... arguments) throws ReflectiveOperationException {
        Class<?>[] types = new Class<?>[arguments.length];
        Arrays.fill(types, int.class);
        Object[] given = new Object[arguments.length];
        for (int k = 0; k < given.length; k++) given[k] = arguments[k];
        return ((Number) CurvePoints.class.getMethod(name, types).invoke(x, given)).longValue();
    }

    /** Each line of the example is called in its order, and answers the number behind it. */
    private static void example(String readme) throws ReflectiveOperationException {
        CurvePoints x = new CurvePoints();
        int lines = 0;
        Matcher line = Pattern.compile("(?m)^x\\.(\\w+)\\(([^)]*)\\);\\s*// (-?\\d+)").matcher(readme);
        while (line.find()) {
            lines++;
            String list = line.group(2).trim();
            String[] parts = list.isEmpty() ? new String[0] : list.split(", ");
            int[] arguments = new int[parts.length];
            for (int k = 0; k < parts.length; k++) arguments[k] = (int) (long) Long.decode(parts[k]);
            due("example, " + line.group(1) + " " + list, call(x, line.group(1), arguments), Long.parseLong(line.group(3)));
        }
        int shown = 0;
        for (String text : readme.split("\n")) if (text.startsWith("x.")) shown++;
        due("lines of the example with their answers", lines, shown);
        due("an example is there", lines > 10, true);
    }

    private static void constants(String readme) {
        due("ZERO", readme.contains("| " + CurvePoints.ZERO + " | `ZERO` |"), true);
        due("NONE", readme.contains("| " + CurvePoints.NONE + " | `NONE` |"), true);
        due("FAR", readme.contains("| " + CurvePoints.FAR + " | `FAR` |"), true);
        due("NO_SUCH", readme.contains("| `Long.MIN_VALUE` | `NO_SUCH` |") && CurvePoints.NO_SUCH == Long.MIN_VALUE, true);
    }

    /** Each call's name and its parameters' names, as the document's face has them. */
    private static Map<String, String> face() throws IOException {
        Map<String, String> face = new TreeMap<>();
        Matcher method = Pattern.compile("(?m)^    public (?:int|long) (\\w+)\\(([^)]*)\\);$").matcher(Files.readString(Path.of("../shared/DOC.md")));
        while (method.find()) face.put(method.group(1), method.group(2).replaceAll("\\b(int|long) ", ""));
        return face;
    }

    private static long code(String refused) {
        Matcher first = Pattern.compile("`NO_SUCH`|-\\d").matcher(refused);
        if (!first.find()) return 0;
        return first.group().startsWith("`") ? CurvePoints.NO_SUCH : Long.parseLong(first.group());
    }

    private static int[] all(int many, int value) {
        int[] arguments = new int[many];
        Arrays.fill(arguments, value);
        return arguments;
    }

    private static void calls(String readme) throws IOException, ReflectiveOperationException {
        Map<String, String> face = face();
        TreeSet<String> met = new TreeSet<>();
        Matcher row = Pattern.compile("(?m)^\\| `(\\w+)\\(([^)]*)\\)` \\| ([^|]+) \\| ([^|]+) \\|$").matcher(readme);
        while (row.find()) {
            String name = row.group(1);
            due(name + " stands there once", met.add(name), true);
            due("parameters of " + name, row.group(2), face.getOrDefault(name, "no such call"));
            int many = row.group(2).isEmpty() ? 0 : row.group(2).split(", ").length;
            CurvePoints fresh = new CurvePoints();
            if (name.equals("feed")) for (int k = 0; k < 10; k++) fresh.feed(0, 0, 0, 0, 0);
            due(name + ", refused without a curve", call(fresh, name, all(many, 1)), code(row.group(4)));
            if (many == 0 || name.equals("feed")) continue;
            for (int value : new int[] {Integer.MIN_VALUE, Integer.MIN_VALUE + 1}) {
                CurvePoints x = Texts.on("curve 0 -2 within 10 2;");
                due(name + ", refused by " + value, call(x, name, all(many, value)), code(row.group(4)));
            }
        }
        due("the calls", met, new TreeSet<>(face.keySet()));
        int there = 0;
        for (Method method : CurvePoints.class.getMethods()) if (method.getDeclaringClass() == CurvePoints.class) there++;
        due("how many calls the class has", there, met.size());
    }

    /** The tests that it tells of are those that there are. */
    private static void tests(String readme) throws IOException {
        try (var files = Files.list(Path.of("src/test/java"))) {
            for (Path file : (Iterable<Path>) files::iterator) {
                String name = file.getFileName().toString().replace(".java", "");
                boolean main = Files.readString(file).contains("public static void main");
                if (main) due(name + " is told of", readme.contains("- `" + name + "`"), true);
            }
        }
        Matcher told = Pattern.compile("(?m)^- `(\\w+)`").matcher(readme);
        while (told.find()) due(told.group(1) + " is there", Files.exists(Path.of("src/test/java", told.group(1) + ".java")), true);
    }

    public static void main(String[] args) throws IOException, ReflectiveOperationException {
        String readme = Files.readString(Path.of("README.md"));
        example(readme);
        constants(readme);
        calls(readme);
        tests(readme);
        System.out.println(asked + " of README.md asked, " + wrong + " not as due");
        if (wrong != 0) System.exit(1);
    }
}
