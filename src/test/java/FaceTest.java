import java.lang.reflect.Constructor;
import java.lang.reflect.Field;
import java.lang.reflect.Method;
import java.lang.reflect.Modifier;
import java.nio.file.Files;
import java.nio.file.Path;
import java.util.Set;
import java.util.TreeSet;

/** The face of the class is the document's, and the file keeps to those rules of the language that a text shows. */
public final class FaceTest {
    private static final Check CHECK = new Check("FaceTest");
    private static final String SOURCE = "src/main/java/DumpDesk.java";

    private static final Set<String> FACE = Set.of(
            "int taskNew(int)", "int taskEnd(int)", "void waitOn(int,int)", "int wake(int)", "void timer(int)",
            "int file(boolean,int)", "void log(int)", "void poke(int,int)", "int memory(int)", "void halt()",
            "void sector(int,boolean)", "int dump(int)", "int area(int,int)", "int attach()", "int word(int)",
            "int walk(int)", "int broken(int)", "int node(int,int)");

    public static void main(String[] args) throws Exception {
        methods();
        otherMembers();
        nestedClasses();
        source(Files.readString(Path.of(SOURCE)));
        CHECK.end();
    }

    private static String signature(Method method) {
        StringBuilder text = new StringBuilder(method.getReturnType() + " " + method.getName() + "(");
        for (Class<?> type : method.getParameterTypes()) {
            text.append(text.charAt(text.length() - 1) == '(' ? "" : ",").append(type);
        }
        return text.append(')').toString();
    }

    private static void methods() {
        Set<String> open = new TreeSet<>();
        Set<String> names = new TreeSet<>();
        for (Method method : DumpDesk.class.getDeclaredMethods()) {
            if (!Modifier.isPrivate(method.getModifiers())) {
                open.add(signature(method));
                CHECK.same(method.getName() + " is public", Modifier.isPublic(method.getModifiers()), true);
                CHECK.same(method.getName() + " is static", Modifier.isStatic(method.getModifiers()), false);
            }
            CHECK.same(method.getName() + " is there once", names.add(method.getName()), true);
        }
        CHECK.same("the methods", open, new TreeSet<>(FACE));
    }

    private static void otherMembers() {
        CHECK.same("the class's modifiers", DumpDesk.class.getModifiers(), Modifier.PUBLIC | Modifier.FINAL);
        Constructor<?>[] constructors = DumpDesk.class.getDeclaredConstructors();
        CHECK.due("constructors", constructors.length, 1);
        CHECK.due("the constructor's parameters", constructors[0].getParameterCount(), 0);
        CHECK.same("the constructor is public", Modifier.isPublic(constructors[0].getModifiers()), true);
        for (Field field : DumpDesk.class.getDeclaredFields()) {
            CHECK.same(field.getName() + " is private", Modifier.isPrivate(field.getModifiers()), true);
        }
    }

    private static void nestedClasses() {
        Class<?>[] nested = DumpDesk.class.getDeclaredClasses();
        CHECK.same("at most twelve classes", nested.length < 12, true);
        for (Class<?> inside : nested) {
            CHECK.same(inside.getName() + " is static", Modifier.isStatic(inside.getModifiers()), true);
            for (Field field : inside.getDeclaredFields()) {
                CHECK.same(field.getName() + " is static", Modifier.isStatic(field.getModifiers()), false);
            }
        }
    }

    private static void source(String text) {
        String[] outside = {"->", "::", "package ", "synchronized", "assert ", "finally", "System.out", "java.io",
            "Random", "currentTime", "nanoTime", "Exact("};
        for (String part : outside) {
            CHECK.same("the file has " + part, text.contains(part), false);
        }
        for (String line : text.split("\n")) {
            if (line.startsWith("import ")) {
                String name = line.substring(7);
                boolean listed = name.equals("java.util.Arrays;") || name.equals("java.util.NoSuchElementException;");
                CHECK.same(line + " is listed", listed, true);
            }
        }
    }
}
