import java.io.IOException;
import java.lang.reflect.Array;
import java.lang.reflect.Constructor;
import java.lang.reflect.Field;
import java.lang.reflect.Method;
import java.lang.reflect.Modifier;
import java.nio.file.Files;
import java.nio.file.Path;
import java.util.ArrayDeque;
import java.util.Deque;
import java.util.HashSet;
import java.util.IdentityHashMap;
import java.util.Map;
import java.util.Set;
import java.util.TreeSet;
import java.util.regex.Matcher;
import java.util.regex.Pattern;

/** The face of the class, and those of the rules of ../shared/LANGUAGE.md that a program can look for. */
public final class RulesTest {
    private static final Path DOCUMENT = Path.of("../shared/DOC.md");
    private static final Path PROGRAM = Path.of("src/main/java/LotSales.java");

    private RulesTest() {
    }

    private static void holds(String rule, boolean isKept) {
        Expect.due(rule, isKept ? 1 : 0, 1);
    }

    /** The lines of the document's face and those of the class, written in the same way. */
    private static void face() throws IOException {
        Set<String> want = new TreeSet<>();
        String document = Files.readString(DOCUMENT);
        Matcher line = Pattern.compile("^    (public [^;]*);", Pattern.MULTILINE).matcher(document);
        while (line.find()) {
            String face = line.group(1);
            // The names of the arguments are left out.
            want.add(face.replaceAll("(boolean|int|char) \\w+([,)])", "$1$2"));
        }
        Set<String> got = new TreeSet<>();
        for (Method method : LotSales.class.getDeclaredMethods()) {
            if (Modifier.isPublic(method.getModifiers())) {
                got.add("public " + method.getReturnType() + " " + method.getName()
                        + list(method.getParameterTypes(), "(", ", ", ")")
                        + list(method.getExceptionTypes(), method.getExceptionTypes().length == 0 ? "" : " throws ",
                                ", ", ""));
            }
        }
        for (Constructor<?> constructor : LotSales.class.getConstructors()) {
            got.add("public LotSales" + list(constructor.getParameterTypes(), "(", ", ", ")"));
        }
        Set<String> missing = new TreeSet<>(want);
        missing.removeAll(got);
        Set<String> surplus = new TreeSet<>(got);
        surplus.removeAll(want);
        Expect.due("lines of the face", want.size(), 41);
        holds("missing in the face: " + missing, missing.isEmpty());
        holds("not in the document's face: " + surplus, surplus.isEmpty());
    }

    private static String list(Class<?>[] types, String before, String between, String behind) {
        StringBuilder text = new StringBuilder(before);
        for (int i = 0; i < types.length; i++) {
            text.append(i == 0 ? "" : between).append(types[i].getSimpleName());
        }
        return text.append(behind).toString();
    }

    private static void members() {
        Class<?> program = LotSales.class;
        holds("the class is public and final", Modifier.isPublic(program.getModifiers())
                && Modifier.isFinal(program.getModifiers()));
        Set<String> names = new HashSet<>();
        for (Method method : program.getMethods()) {
            names.add(method.getName());
        }
        for (Method method : program.getDeclaredMethods()) {
            int kind = method.getModifiers();
            holds(method + " is public or private", Modifier.isPublic(kind) || Modifier.isPrivate(kind));
            holds(method + " has a name of its own",
                    Modifier.isPublic(kind) || !names.contains(method.getName()));
        }
        for (Field field : program.getDeclaredFields()) {
            holds(field + " is private", Modifier.isPrivate(field.getModifiers()));
        }
        Class<?>[] inside = program.getDeclaredClasses();
        holds("some twelve classes", inside.length <= 11);
        shape(program);
        for (Class<?> type : inside) {
            holds(type + " is static and not public", Modifier.isStatic(type.getModifiers())
                    && !Modifier.isPublic(type.getModifiers()) && !Modifier.isProtected(type.getModifiers()));
            shape(type);
        }
    }

    private static void shape(Class<?> type) {
        int fields = 0;
        for (Field field : type.getDeclaredFields()) {
            if (Modifier.isStatic(field.getModifiers())) {
                holds(field + " is final", Modifier.isFinal(field.getModifiers()));
            } else {
                fields++;
            }
        }
        holds("some twenty fields of " + type, fields <= 20);
        for (Method method : type.getDeclaredMethods()) {
            holds("at most seven parameters of " + method, method.getParameterCount() <= 7);
        }
    }

    private static void text() throws IOException {
        String program = Files.readString(PROGRAM);
        holds("signs are 1 to 127", program.chars().allMatch(sign -> sign >= 1 && sign <= 127));
        String code = program.replaceAll("(?s)/\\*.*?\\*/", "").replaceAll("//[^\n]*", "")
                .replaceAll("\"[^\"\n]*\"", "\"\"");
        never(code, "a lambda or a method reference", "->|::");
        never(code, "joining by +", "\"\\s*\\+|\\+\\s*\"");
        never(code, "another statement", "\\b(try|catch|finally|synchronized|assert|volatile|native|goto)\\b");
        never(code, "a static block", "\\bstatic\\s*\\{");
        never(code, "a method of all objects", "\\b(equals|hashCode|toString|getClass)\\s*\\(");
        never(code, "a raw exact function", "\\w+Exact\\b");
        only(code, "imports", "\\bimport\\s+([\\w.]+)", "java.util.NoSuchElementException");
        only(code, "calls of Math", "\\bMath\\.(\\w+)", "min", "max", "abs");
        only(code, "calls of System", "\\bSystem\\.(\\w+)", "arraycopy");
        only(code, "exceptions", "\\bthrow\\s+(?:new\\s+)?(\\w+)", "IllegalStateException",
                "IllegalArgumentException", "IndexOutOfBoundsException", "ArithmeticException",
                "UnsupportedOperationException", "NoSuchElementException");
        only(code, "objects made", "\\bnew\\s+(\\w+)\\s*[(\\[]", "IllegalStateException",
                "IllegalArgumentException", "IndexOutOfBoundsException", "ArithmeticException",
                "UnsupportedOperationException", "NoSuchElementException", "int", "char", "Sale", "Table", "Lot",
                "Ledger", "Standing", "History", "Text");
        only(code, "capital names with a point", "\\b([A-Z][a-z]\\w*)\\.[a-z]", "Math", "System");
        methodLengths(code);
    }

    private static void never(String code, String rule, String pattern) {
        Matcher matcher = Pattern.compile(pattern).matcher(code);
        holds("the program has no " + rule, !matcher.find());
    }

    private static void only(String code, String what, String pattern, String... allowed) {
        Set<String> names = Set.of(allowed);
        Matcher matcher = Pattern.compile(pattern).matcher(code);
        while (matcher.find()) {
            holds(what + ": " + matcher.group(1), names.contains(matcher.group(1)));
        }
    }

    private static void methodLengths(String code) {
        int begin = 0;
        String[] lines = code.split("\n");
        for (int i = 0; i < lines.length; i++) {
            if (lines[i].matches(" {4,8}[\\w ]+\\(.*")) {
                begin = i;
            }
            if (lines[i].matches(" {4,8}}")) {
                holds("a method of some sixty lines before line " + i, i - begin <= 60 || begin == 0);
                begin = 0;
            }
        }
    }

    /** Objects and arrays, and fields and elements, that can be reached from the object. */
    private static int[] room(Object root) {
        Map<Object, Boolean> seen = new IdentityHashMap<>();
        Deque<Object> next = new ArrayDeque<>();
        next.add(root);
        seen.put(root, true);
        int cells = 0;
        while (!next.isEmpty()) {
            Object object = next.remove();
            Class<?> type = object.getClass();
            if (type.isArray()) {
                cells += Array.getLength(object);
                for (int i = 0; !type.getComponentType().isPrimitive() && i < Array.getLength(object); i++) {
                    reach(Array.get(object, i), seen, next);
                }
                continue;
            }
            for (Field field : type.getDeclaredFields()) {
                if (Modifier.isStatic(field.getModifiers())) {
                    continue;
                }
                cells++;
                field.setAccessible(true);
                try {
                    if (!field.getType().isPrimitive()) {
                        reach(field.get(object), seen, next);
                    }
                } catch (IllegalAccessException e) {
                    Expect.fault("no access to " + field);
                }
            }
        }
        return new int[] {seen.size(), cells};
    }

    private static void reach(Object object, Map<Object, Boolean> seen, Deque<Object> next) {
        if (object != null && seen.put(object, true) == null) {
            next.add(object);
        }
    }

    private static void roomOfRuns() {
        LotSales x = new LotSales();
        int[] first = room(x);
        holds("a constructor for each of 512 calls has room", first[0] < 600000 / 512
                && first[1] < 7300000 / 512);
        for (int i = 0; i < 20; i++) {
            x.addLot(0, 1, 1000);
        }
        x.save();
        for (int i = 0; i < 512; i++) {
            x.setCredit(i % 10, 1000 + i);
            x.order(i % 2, i % 10, 1 + i);
        }
        int[] last = room(x);
        holds("what is kept is bounded", last[0] < 2000 && last[1] < 40000);
        System.out.println("a new object: " + first[0] + " objects and " + first[1] + " cells; after many changes: "
                + last[0] + " and " + last[1]);
    }

    public static void main(String[] args) throws IOException {
        face();
        members();
        text();
        roomOfRuns();
        Expect.end();
    }
}
