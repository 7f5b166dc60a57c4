import java.lang.reflect.Constructor;
import java.lang.reflect.Field;
import java.lang.reflect.Method;
import java.lang.reflect.Modifier;
import java.nio.file.Files;
import java.nio.file.Path;
import java.util.ArrayList;
import java.util.List;
import java.util.Set;
import java.util.TreeSet;

/** The face of the class is the document's, and the class keeps to those rules of LANGUAGE.md that can be seen. */
public final class FaceTest {
    private static final Check CHECK = new Check("FaceTest");
    private static final Path SOURCE = Path.of("src/main/java/DumpDesk.java");

    private static final Set<String> FACE = Set.of(
            "int taskNew(int)", "int taskEnd(int)", "void waitOn(int,int)", "int wake(int)", "void timer(int)",
            "int file(boolean,int)", "void log(int)", "void poke(int,int)", "int memory(int)", "void halt()",
            "void sector(int,boolean)", "int dump(int)", "int area(int,int)", "int attach()", "int word(int)",
            "int walk(int)", "int broken(int)", "int node(int,int)");

    private static final Set<String> IMPORTS = Set.of("java.util.Arrays", "java.util.NoSuchElementException",
            "java.util.ArrayList", "java.util.List", "java.util.Iterator", "java.util.*");

    public static void main(String[] args) throws Exception {
        String text = Files.readString(SOURCE);
        CHECK.sentence("The public face", FaceTest::methods);
        CHECK.sentence("1. no other public, protected or package-visible member", FaceTest::otherMembers);
        CHECK.sentence("2. no lambda, no method reference; 6. No synchronized", FaceTest::plainMethods);
        CHECK.sentence("5. Static fields are final", FaceTest::staticFields);
        CHECK.sentence("11. the file has at most some twelve classes", () ->
                CHECK.same("classes " + classes().size() + " are few", classes().size() <= 13, true));
        CHECK.sentence("4. The library: only what stands here.", () -> imports(text));
        CHECK.end();
    }

    private static List<Class<?>> classes() {
        List<Class<?>> classes = new ArrayList<>(List.of(DumpDesk.class));
        for (int k = 0; k < classes.size(); k++) {
            classes.addAll(List.of(classes.get(k).getDeclaredClasses()));
        }
        return classes;
    }

    private static String signature(Method method) {
        StringBuilder text = new StringBuilder(method.getReturnType() + " " + method.getName() + "(");
        for (Class<?> type : method.getParameterTypes()) {
            text.append(text.charAt(text.length() - 1) == '(' ? "" : ",").append(type);
        }
        return text.append(')').toString();
    }

    private static void methods() {
        Set<String> open = new TreeSet<>();
        Set<String> names = new TreeSet<>();
        for (Method method : DumpDesk.class.getDeclaredMethods()) {
            if (Modifier.isPublic(method.getModifiers())) {
                open.add(signature(method));
                names.add(method.getName());
                CHECK.same(method.getName() + " is static", Modifier.isStatic(method.getModifiers()), false);
            }
        }
        CHECK.same("the methods", open, new TreeSet<>(FACE));
        for (Method method : DumpDesk.class.getDeclaredMethods()) {
            if (Modifier.isPrivate(method.getModifiers())) {
                CHECK.same(method.getName() + " bears a public name", names.contains(method.getName()), false);
            }
        }
    }

    private static void otherMembers() {
        CHECK.same("the class's modifiers", DumpDesk.class.getModifiers(), Modifier.PUBLIC | Modifier.FINAL);
        Constructor<?>[] constructors = DumpDesk.class.getDeclaredConstructors();
        CHECK.due("constructors", constructors.length, 1);
        CHECK.due("the constructor's parameters", constructors[0].getParameterCount(), 0);
        CHECK.same("the constructor is public", Modifier.isPublic(constructors[0].getModifiers()), true);
        for (Field field : DumpDesk.class.getDeclaredFields()) {
            CHECK.same(field.getName() + " is private", Modifier.isPrivate(field.getModifiers()), true);
        }
        for (Method method : DumpDesk.class.getDeclaredMethods()) {
            int modifiers = method.getModifiers();
            boolean seen = Modifier.isPublic(modifiers) || Modifier.isPrivate(modifiers) || method.isSynthetic();
            CHECK.same(method.getName() + " is public or private", seen, true);
        }
        for (Class<?> inside : DumpDesk.class.getDeclaredClasses()) {
            int modifiers = inside.getModifiers();
            CHECK.same(inside.getName() + " is open", Modifier.isPublic(modifiers) || Modifier.isProtected(modifiers),
                    false);
        }
    }

    private static void plainMethods() {
        for (Class<?> type : classes()) {
            for (Method method : type.getDeclaredMethods()) {
                CHECK.same(method + " is a lambda", method.getName().startsWith("lambda$"), false);
                CHECK.same(method + " is synchronized", Modifier.isSynchronized(method.getModifiers()), false);
                CHECK.same(method + " takes more than seven", method.getParameterCount() > 7, false);
            }
        }
    }

    private static void staticFields() {
        for (Class<?> type : classes()) {
            for (Field field : type.getDeclaredFields()) {
                int modifiers = field.getModifiers();
                CHECK.same(field + " is static and not final", Modifier.isStatic(modifiers)
                        && !Modifier.isFinal(modifiers) && !field.isSynthetic(), false);
            }
        }
    }

    private static void imports(String text) {
        for (String line : text.split("\n")) {
            if (line.startsWith("import ")) {
                CHECK.same(line + " is listed", IMPORTS.contains(line.substring(7).replace(";", "").trim()), true);
            }
            CHECK.same(line + " is a package line", line.startsWith("package "), false);
        }
    }
}
