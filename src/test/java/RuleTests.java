import java.io.IOException;
import java.io.PrintWriter;
import java.io.StringWriter;
import java.lang.reflect.Array;
import java.lang.reflect.Constructor;
import java.lang.reflect.Field;
import java.lang.reflect.Method;
import java.lang.reflect.Modifier;
import java.nio.file.Files;
import java.nio.file.Path;
import java.util.ArrayList;
import java.util.Collections;
import java.util.IdentityHashMap;
import java.util.List;
import java.util.Map;
import java.util.Set;
import java.util.TreeMap;
import java.util.TreeSet;
import java.util.regex.Matcher;
import java.util.regex.Pattern;
import java.util.spi.ToolProvider;

/** The face of the document, and the rules of LANGUAGE.md that can be seen in the source or in an object. */
public final class RuleTests {
    private static int wrong = 0;

    private static void due(String rule, boolean holds) {
        if (holds) return;
        wrong++;
        System.out.println("not so: " + rule);
    }

    private static Set<String> faceOfDocument() throws IOException {
        String document = Files.readString(Path.of("../shared/DOC.md"));
        Set<String> face = new TreeSet<>();
        Matcher matcher = Pattern.compile("^    public ([^;=]*?)( =[^;]*)?;$", Pattern.MULTILINE).matcher(document);
        while (matcher.find()) face.add(matcher.group(1).replaceAll("(int|long) \\w+(?=[,)])", "$1"));
        return face;
    }

    private static Set<String> faceOfClass() {
        Set<String> face = new TreeSet<>();
        for (Field field : CurvePoints.class.getDeclaredFields()) {
            if (Modifier.isPublic(field.getModifiers())) face.add("static final " + field.getType().getName() + " " + field.getName());
            else due("1: private is " + field, Modifier.isPrivate(field.getModifiers()));
        }
        for (Constructor<?> constructor : CurvePoints.class.getDeclaredConstructors()) {
            face.add("CurvePoints" + types(constructor.getParameterTypes()));
        }
        for (Method method : CurvePoints.class.getDeclaredMethods()) {
            if (Modifier.isPublic(method.getModifiers())) face.add(method.getReturnType().getName() + " " + method.getName() + types(method.getParameterTypes()));
            else due("1: private is " + method, Modifier.isPrivate(method.getModifiers()));
        }
        return face;
    }

    private static String types(Class<?>[] types) {
        List<String> names = new ArrayList<>();
        for (Class<?> type : types) names.add(type.getName());
        return "(" + String.join(", ", names) + ")";
    }

    private static void members() {
        Set<String> names = new TreeSet<>();
        for (Method method : CurvePoints.class.getDeclaredMethods()) if (Modifier.isPublic(method.getModifiers())) names.add(method.getName());
        Class<?>[] inside = CurvePoints.class.getDeclaredClasses();
        due("11: some twelve classes", inside.length + 1 <= 12);
        List<Class<?>> all = new ArrayList<>(List.of(inside));
        for (Class<?> one : inside) due("2: static is " + one, Modifier.isStatic(one.getModifiers()) && !Modifier.isPublic(one.getModifiers()));
        all.add(CurvePoints.class);
        for (Class<?> one : all) {
            int fields = 0;
            for (Field field : one.getDeclaredFields()) {
                if (!Modifier.isStatic(field.getModifiers())) fields++;
                else due("5: final is " + field, Modifier.isFinal(field.getModifiers()));
            }
            due("11: some twenty fields in " + one, fields <= 20);
            for (Method method : one.getDeclaredMethods()) {
                due("11: seven parameters of " + method, method.getParameterCount() <= 7);
                boolean face = one == CurvePoints.class && Modifier.isPublic(method.getModifiers());
                due("1: no name of the face for " + method, face || !names.contains(method.getName()));
            }
        }
    }

    private static String withoutComments(String source) {
        return source.replaceAll("(?s)/\\*.*?\\*/", "").replaceAll("//[^\n]*", "");
    }

    private static void source() throws IOException {
        String source = withoutComments(Files.readString(Path.of("src/main/java/CurvePoints.java")));
        for (String word : List.of("throw", "throws", "try", "catch", "finally", "synchronized", "assert", "package", "Random", "System.out",
            "Thread", "hashCode", "toString", "Object", "Exception", "Math.sqrt", "double", "float", "volatile", "native")) {
            due("no word " + word, !Pattern.compile("\\b" + Pattern.quote(word) + "\\b").matcher(source).find());
        }
        for (String sign : List.of("->", "::", "Exact(", "static {")) due("no sign " + sign, !source.contains(sign));
        Matcher imports = Pattern.compile("import ([^;]*);").matcher(source);
        while (imports.find()) due("4: import " + imports.group(1), imports.group(1).equals("java.util.Arrays"));
        Matcher methods = Pattern.compile("(?m)^( {4}| {8})(?! )[^\n=]*\\) \\{\n((?:.*\n)*?)\\1\\}").matcher(source);
        int seen = 0;
        while (methods.find()) {
            seen++;
            due("11: short is " + methods.group().lines().findFirst().get(), methods.group(2).lines().count() <= 60);
        }
        due("methods are seen", seen > 100);
    }

    /** Fields and elements that a new object and all within it have. */
    private static int room(Object root, Set<Object> met) throws IllegalAccessException {
        if (root == null || !met.add(root)) return 0;
        int size = 0;
        if (root.getClass().isArray()) {
            size += Array.getLength(root);
            if (root instanceof Object[] many) for (Object one : many) size += room(one, met);
            return size;
        }
        if (!root.getClass().getName().startsWith("CurvePoints")) return 0;
        for (Field field : root.getClass().getDeclaredFields()) {
            if (Modifier.isStatic(field.getModifiers())) continue;
            size++;
            field.setAccessible(true);
            if (!field.getType().isPrimitive()) size += room(field.get(root), met);
        }
        return size;
    }

    private static void room() throws IllegalAccessException {
        Set<Object> met = Collections.newSetFromMap(new IdentityHashMap<>());
        CurvePoints x = Texts.on("curve -60 -161 within 1000 6;");
        int size = room(x, met);
        due("an object takes few elements, " + size, size < 10000);
        due("an object takes few objects, " + met.size(), met.size() < 100);
    }

    /** All is made when an object is: nowhere else does "new" stand but in fields and constructors. */
    private static void madeOnce() throws IOException {
        String source = withoutComments(Files.readString(Path.of("src/main/java/CurvePoints.java")));
        for (String line : source.split("\n")) {
            if (!Pattern.compile("\\bnew\\b").matcher(line).find()) continue;
            boolean field = line.matches(" {8}private final .* = new .*;");
            boolean constructor = line.matches(" {8}(Sieve )?\\w+ = new .*;");
            due("12: made once, " + line.trim(), field || constructor);
        }
    }

    private static final Set<String> LIBRARY = Set.of(
        "java/lang/Object.<init>", "java/lang/String.charAt", "java/lang/String.length", "java/lang/Math.abs", "java/lang/Math.max", "java/lang/Math.min",
        "java/lang/Integer.signum", "java/lang/Long.numberOfLeadingZeros", "java/lang/System.arraycopy", "java/util/Arrays.fill");

    private static String disassembled() {
        List<String> arguments = new ArrayList<>(List.of("-c", "-p", "-cp", System.getProperty("java.class.path"), "CurvePoints"));
        for (Class<?> one : CurvePoints.class.getDeclaredClasses()) arguments.add(one.getName());
        StringWriter text = new StringWriter();
        PrintWriter writer = new PrintWriter(text);
        int status = ToolProvider.findFirst("javap").orElseThrow().run(writer, writer, arguments.toArray(new String[0]));
        due("the class is taken apart", status == 0);
        return text.toString();
    }

    /** Which methods each one calls, by class and name; calls of the library are looked at on the way. */
    private static Map<String, Set<String>> calls() {
        Map<String, Set<String>> all = new TreeMap<>();
        String owner = "";
        String method = "";
        Pattern title = Pattern.compile("^(?:.* )?(?:class|interface) ([\\w$]+).*\\{$");
        Pattern head = Pattern.compile("^  \\S.*?([\\w$]+)\\(.*\\);$");
        Pattern call = Pattern.compile("// (?:Interface)?Method (\\S+?):");
        for (String line : disassembled().split("\\R")) {
            Matcher titled = title.matcher(line);
            Matcher headed = head.matcher(line);
            Matcher called = call.matcher(line);
            if (titled.matches()) {
                owner = titled.group(1);
            } else if (headed.matches()) {
                method = owner + "." + (headed.group(1).equals(owner) ? "<init>" : headed.group(1));
                all.putIfAbsent(method, new TreeSet<>());
            } else if (called.find()) {
                String name = called.group(1).replace("\"", "");
                if (name.contains("/")) due("4: " + name, LIBRARY.contains(name));
                else all.get(method).add(name.contains(".") ? name : owner + "." + name);
            }
        }
        return all;
    }

    /** How deep the calls of one go; what calls itself, if only by others, goes deeper than any bound. */
    private static int depth(Map<String, Set<String>> calls, String method, int ahead) {
        int most = 0;
        if (ahead > 20) return most;
        for (String called : calls.getOrDefault(method, Set.of())) most = Math.max(most, depth(calls, called, ahead + 1));
        return most + 1;
    }

    private static void depths() {
        Map<String, Set<String>> calls = calls();
        due("methods are taken apart", calls.size() > 200);
        for (String method : calls.keySet()) due("11: eight deep is " + method, depth(calls, method, 0) <= 8);
        due("formula() goes as deep as may be", depth(calls, "CurvePoints.formula", 0) == 8);
    }

    public static void main(String[] args) throws IOException, IllegalAccessException {
        Set<String> missing = faceOfDocument();
        missing.removeAll(faceOfClass());
        Set<String> added = faceOfClass();
        added.removeAll(faceOfDocument());
        due("1: the face lacks " + missing + " and adds " + added, missing.isEmpty() && added.isEmpty());
        due("1: the document has a face", faceOfDocument().size() > 60);
        due("1: final", Modifier.isFinal(CurvePoints.class.getModifiers()));
        members();
        source();
        room();
        madeOnce();
        depths();
        System.out.println(wrong == 0 ? "the rules hold" : wrong + " rules do not hold");
        if (wrong != 0) System.exit(1);
    }
}
