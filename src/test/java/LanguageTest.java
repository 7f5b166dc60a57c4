import java.io.IOException;
import java.lang.reflect.Array;
import java.lang.reflect.Field;
import java.lang.reflect.Method;
import java.lang.reflect.Modifier;
import java.nio.file.Files;
import java.nio.file.Path;
import java.util.ArrayDeque;
import java.util.ArrayList;
import java.util.Collections;
import java.util.Deque;
import java.util.IdentityHashMap;
import java.util.List;
import java.util.Set;
import java.util.regex.MatchResult;
import java.util.regex.Matcher;
import java.util.regex.Pattern;

/** The rules of LANGUAGE.md that can be seen from the source, from the compiled class, or from an object's size. */
public final class LanguageTest {
    private static final Check CHECK = new Check("LanguageTest");
    private static final Path SOURCE = Path.of("src/main/java/DumpDesk.java");

    private static final Set<String> IMPORTS = Set.of("java.util.Arrays", "java.util.NoSuchElementException",
            "java.util.ArrayList", "java.util.List", "java.util.Iterator");
    private static final Set<String> CALLS = Set.of("Arrays.fill", "Arrays.copyOf", "Arrays.copyOfRange",
            "System.arraycopy");
    private static final Set<String> NUMBERS = Set.of("Integer", "Long", "Math");
    private static final Set<String> EXCEPTIONS = Set.of("IllegalStateException", "IllegalArgumentException",
            "NoSuchElementException");

    private static final int MOST_CLASSES = 12;
    private static final int MOST_FIELDS = 20;
    private static final int MOST_PARAMETERS = 7;
    private static final int MOST_LINES = 60;
    private static final int CALLS_OF_A_RUN = 512;
    private static final int ROOM_OF_OBJECTS = 600_000;
    private static final int ROOM_OF_ELEMENTS = 7_300_000;

    public static void main(String[] args) throws IOException {
        String code = withoutComments(Files.readString(SOURCE));
        CHECK.sentence("without a package line; 4. The library: only what stands here: imports", () -> imports(code));
        CHECK.sentence("4. The library: only what stands here: calls", () -> libraryCalls(code));
        CHECK.sentence("2. no lambda, no method reference; 6. No finally, synchronized, assert", () -> noWords(code));
        CHECK.sentence("3. Types", LanguageTest::types);
        CHECK.sentence("5. Static fields are final, no static initialiser block", () -> staticState(code));
        CHECK.sentence("6. throw new E(), E one of these; no throw in a constructor", () -> exceptions(code));
        CHECK.sentence("11. parameters, lines, classes and fields", () -> sizes(code));
        CHECK.sentence("12. none in a loop without a bound: no method makes any", () -> makesNothing(code));
        CHECK.sentence("ONE room", LanguageTest::room);
        CHECK.end();
    }

    private static String withoutComments(String text) {
        return Pattern.compile("/\\*.*?\\*/", Pattern.DOTALL).matcher(text).replaceAll("").replaceAll("//.*", "");
    }

    private static List<String> found(String code, String pattern) {
        Matcher matcher = Pattern.compile(pattern, Pattern.MULTILINE).matcher(code);
        return matcher.results().map((MatchResult result) -> result.group(1)).toList();
    }

    private static List<Class<?>> classes() {
        List<Class<?>> classes = new ArrayList<>(List.of(DumpDesk.class));
        for (int k = 0; k < classes.size(); k++) {
            classes.addAll(List.of(classes.get(k).getDeclaredClasses()));
        }
        return classes;
    }

    private static List<String> classNames() {
        return classes().stream().map(Class::getSimpleName).toList();
    }

    private static void imports(String code) {
        for (String name : found(code, "^\\s*import ([^;]+);")) {
            CHECK.same("import of " + name + " is listed", IMPORTS.contains(name), true);
        }
        CHECK.due("package lines", found(code, "^\\s*(package)\\b").size(), 0);
        CHECK.due("classes outside the one", found(code, "^(?:public )?(?:final )?(class|record|enum)\\b").size(), 1);
    }

    /** A name with a capital before the point is a class of the library, or one of our own. */
    private static void libraryCalls(String code) {
        for (String call : found(code, "\\b([A-Z]\\w*\\.\\w+)\\(")) {
            String name = call.substring(0, call.indexOf('.'));
            boolean number = NUMBERS.contains(name) && !call.endsWith("Exact");
            boolean listed = classNames().contains(name) || number || CALLS.contains(call);
            CHECK.same(call + " is listed or our own", listed, true);
        }
        for (String name : found(code, "\\bnew (\\w+)\\s*\\(")) {
            boolean known = classNames().contains(name) || EXCEPTIONS.contains(name);
            CHECK.same("new " + name + " is listed or our own", known, true);
        }
    }

    private static void noWords(String code) {
        CHECK.due("lambdas and references", found(code, "(->|::)").size(), 0);
        CHECK.same("words that are ruled out", found(code,
                "\\b(finally|synchronized|assert|hashCode|toString|getMessage|Thread|Random|File)\\b"), List.of());
    }

    private static void types() {
        for (Class<?> type : classes()) {
            for (Field field : type.getDeclaredFields()) {
                Class<?> kind = field.getType().isArray() ? field.getType().getComponentType() : field.getType();
                boolean fine = kind.isPrimitive() || kind == String.class || classes().contains(kind);
                CHECK.same(field + " is of a type that is listed", fine, true);
            }
        }
    }

    private static void staticState(String code) {
        for (Class<?> type : classes()) {
            for (Field field : type.getDeclaredFields()) {
                if (Modifier.isStatic(field.getModifiers()) && !field.isSynthetic()) {
                    CHECK.same(field + " is final", Modifier.isFinal(field.getModifiers()), true);
                    CHECK.same(field + " is an int", field.getType(), int.class);
                }
            }
        }
        CHECK.due("static blocks", found(code, "\\b(static)\\s*\\{").size(), 0);
    }

    private static void exceptions(String code) {
        int made = found(code, "throw new (\\w+)\\(\\);").size();
        CHECK.due("throws that make an exception there", made, found(code, "\\b(throw)\\b").size());
        for (String name : found(code, "throw new (\\w+)\\(")) {
            CHECK.same(name + " is thrown here", EXCEPTIONS.contains(name), true);
        }
        for (Block block : blocks(code)) {
            CHECK.same(block.head + " is a constructor that throws", block.isConstructor()
                    && block.body.contains("throw"), false);
        }
    }

    private static void sizes(String code) {
        CHECK.same("classes " + classes().size() + " are few", classes().size() <= MOST_CLASSES, true);
        for (Class<?> type : classes()) {
            long fields = List.of(type.getDeclaredFields()).stream()
                    .filter(field -> !Modifier.isStatic(field.getModifiers())).count();
            CHECK.same(type + " has few fields", fields <= MOST_FIELDS, true);
            for (Method method : type.getDeclaredMethods()) {
                CHECK.same(method + " takes few", method.getParameterCount() <= MOST_PARAMETERS, true);
            }
        }
        List<Block> blocks = blocks(code);
        int methods = 0;
        for (Class<?> type : classes()) {
            methods += type.getDeclaredMethods().length;
        }
        CHECK.same("blocks that were found, at least as many as methods", blocks.size() >= methods, true);
        for (Block block : blocks) {
            CHECK.same(block.head + " is short", block.body.split("\n").length <= MOST_LINES, true);
        }
    }

    private static void makesNothing(String code) {
        for (Block block : blocks(code)) {
            String body = block.body.replace("throw new", "throw");
            CHECK.same(block.head + " makes an object", !block.isConstructor()
                    && Pattern.compile("\\bnew\\b|\\.clone\\(|copyOf").matcher(body).find(), false);
        }
    }

    /** A method or constructor: its head, and what stands between its braces. */
    private static final class Block {
        final String head;
        final String body;

        Block(String head, String body) {
            this.head = head;
            this.body = body;
        }

        boolean isConstructor() {
            String name = head.substring(0, head.indexOf('(')).trim();
            return classNames().contains(name.substring(name.lastIndexOf(' ') + 1));
        }
    }

    /** They are told by their indent: 4 in the class itself, 8 in those inside it. */
    private static List<Block> blocks(String code) {
        List<Block> blocks = new ArrayList<>();
        Matcher matcher = Pattern.compile("^( {4}| {8})([A-Za-z][^;{=]*\\([^;{]*)\\{\\n(.*?)^\\1\\}",
                Pattern.MULTILINE | Pattern.DOTALL).matcher(code);
        int from = 0;
        while (matcher.find(from)) {
            blocks.add(new Block(matcher.group(2).trim(), matcher.group(3)));
            from = matcher.end();
        }
        return blocks;
    }

    /** How many objects and arrays can be reached from an object, and how many fields and elements these have. */
    private static int[] sizeOf(DumpDesk desk) {
        Set<Object> seen = Collections.newSetFromMap(new IdentityHashMap<>());
        Deque<Object> left = new ArrayDeque<>(List.of(desk));
        int elements = 0;
        while (!left.isEmpty()) {
            Object object = left.pop();
            if (!seen.add(object)) {
                continue;
            }
            if (object.getClass().isArray()) {
                elements += Array.getLength(object);
                continue;
            }
            for (Field field : object.getClass().getDeclaredFields()) {
                if (!Modifier.isStatic(field.getModifiers())) {
                    elements++;
                    reach(object, field, left);
                }
            }
        }
        return new int[] {seen.size(), elements};
    }

    private static void reach(Object object, Field field, Deque<Object> left) {
        try {
            field.setAccessible(true);
            if (!field.getType().isPrimitive() && field.get(object) != null) {
                left.push(field.get(object));
            }
        } catch (IllegalAccessException e) {
            throw new IllegalStateException(e);
        }
    }

    private static void room() {
        DumpDesk desk = new DumpDesk();
        int[] first = sizeOf(desk);
        // As if every call of a run made as much as the constructor, the dearest of all.
        CHECK.same("objects " + first[0], first[0] * CALLS_OF_A_RUN < ROOM_OF_OBJECTS, true);
        CHECK.same("elements " + first[1], first[1] * CALLS_OF_A_RUN < ROOM_OF_ELEMENTS, true);
        for (int k = 0; k < 18; k++) {
            desk.taskNew(k);
            desk.timer(k);
            desk.waitOn(k / 2, k % 4);
            desk.log(k);
        }
        desk.halt();
        for (int k = 0; k < 50; k++) {
            desk.dump(k);
            desk.attach();
            desk.sector(k, true);
        }
        int[] last = sizeOf(desk);
        CHECK.due("objects behind a run", last[0], first[0]);
        CHECK.due("elements behind a run", last[1], first[1]);
    }
}
