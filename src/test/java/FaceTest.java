import java.lang.reflect.Constructor;
import java.lang.reflect.Field;
import java.lang.reflect.Method;
import java.lang.reflect.Modifier;
import java.util.List;
import java.util.Map;
import java.util.Set;
import java.util.TreeSet;
import java.util.stream.Stream;

/** The face of the class is the document's, and there is no other. */
public final class FaceTest {
    private static final Check CHECK = new Check("FaceTest");

    private static final String ARGUMENT = "IllegalArgumentException";
    private static final String STATE = "IllegalStateException";
    private static final String MISSING = "NoSuchElementException";

    /** Each method with the exceptions that it declares. */
    private static final Map<String, List<String>> FACE = Map.ofEntries(
            Map.entry("int taskNew(int)", List.of(STATE)),
            Map.entry("int taskEnd(int)", List.of(MISSING, STATE)),
            Map.entry("void waitOn(int,int)", List.of(ARGUMENT, MISSING, STATE)),
            Map.entry("int wake(int)", List.of(ARGUMENT, MISSING, STATE)),
            Map.entry("void timer(int)", List.of(STATE)),
            Map.entry("int file(boolean,int)", List.of(STATE)),
            Map.entry("void log(int)", List.of(STATE)),
            Map.entry("void poke(int,int)", List.of(ARGUMENT, STATE)),
            Map.entry("int memory(int)", List.of(ARGUMENT)),
            Map.entry("void halt()", List.of()),
            Map.entry("void sector(int,boolean)", List.of(ARGUMENT)),
            Map.entry("int dump(int)", List.of(ARGUMENT, STATE)),
            Map.entry("int area(int,int)", List.of(ARGUMENT)),
            Map.entry("int attach()", List.of()),
            Map.entry("int word(int)", List.of(MISSING, ARGUMENT)),
            Map.entry("int walk(int)", List.of(ARGUMENT, STATE)),
            Map.entry("int broken(int)", List.of(ARGUMENT, STATE)),
            Map.entry("int node(int,int)", List.of(ARGUMENT, STATE, MISSING)));

    public static void main(String[] args) {
        CHECK.sentence("The public face: its methods", FaceTest::methods);
        CHECK.sentence("The public face: throws", FaceTest::exceptions);
        CHECK.sentence("1. no other public, protected or package-visible member", FaceTest::otherMembers);
        CHECK.sentence("1. No private method bears the name of a public one.", FaceTest::privateNames);
        CHECK.end();
    }

    private static String signature(Method method) {
        StringBuilder text = new StringBuilder(method.getReturnType() + " " + method.getName() + "(");
        for (Class<?> type : method.getParameterTypes()) {
            text.append(text.charAt(text.length() - 1) == '(' ? "" : ",").append(type);
        }
        return text.append(')').toString();
    }

    private static List<Method> publicMethods() {
        return Stream.of(DumpDesk.class.getDeclaredMethods())
                .filter(method -> Modifier.isPublic(method.getModifiers())).toList();
    }

    private static void methods() {
        Set<String> open = new TreeSet<>();
        for (Method method : publicMethods()) {
            open.add(signature(method));
            CHECK.same(method.getName() + " is static", Modifier.isStatic(method.getModifiers()), false);
        }
        CHECK.same("the methods", open, new TreeSet<>(FACE.keySet()));
    }

    private static void exceptions() {
        for (Method method : publicMethods()) {
            List<String> declared = Stream.of(method.getExceptionTypes()).map(Class::getSimpleName).toList();
            CHECK.same(signature(method) + " throws", declared, FACE.getOrDefault(signature(method), List.of()));
        }
        CHECK.due("exceptions of the constructor",
                DumpDesk.class.getDeclaredConstructors()[0].getExceptionTypes().length, 0);
    }

    private static void privateNames() {
        List<String> names = publicMethods().stream().map(Method::getName).toList();
        for (Method method : DumpDesk.class.getDeclaredMethods()) {
            if (Modifier.isPrivate(method.getModifiers())) {
                CHECK.same(method.getName() + " bears a public name", names.contains(method.getName()), false);
            }
        }
    }

    private static void otherMembers() {
        CHECK.same("the class's modifiers", DumpDesk.class.getModifiers(), Modifier.PUBLIC | Modifier.FINAL);
        Constructor<?>[] constructors = DumpDesk.class.getDeclaredConstructors();
        CHECK.due("constructors", constructors.length, 1);
        CHECK.due("the constructor's parameters", constructors[0].getParameterCount(), 0);
        CHECK.same("the constructor is public", Modifier.isPublic(constructors[0].getModifiers()), true);
        for (Field field : DumpDesk.class.getDeclaredFields()) {
            CHECK.same(field.getName() + " is private", Modifier.isPrivate(field.getModifiers()), true);
        }
        for (Method method : DumpDesk.class.getDeclaredMethods()) {
            int modifiers = method.getModifiers();
            boolean seen = Modifier.isPublic(modifiers) || Modifier.isPrivate(modifiers) || method.isSynthetic();
            CHECK.same(method.getName() + " is public or private", seen, true);
        }
        for (Class<?> inside : DumpDesk.class.getDeclaredClasses()) {
            int modifiers = inside.getModifiers();
            CHECK.same(inside.getName() + " is open", Modifier.isPublic(modifiers) || Modifier.isProtected(modifiers),
                    false);
            CHECK.same(inside.getName() + " is static", Modifier.isStatic(modifiers), true);
        }
    }
}
