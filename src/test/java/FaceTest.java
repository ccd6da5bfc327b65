import java.lang.reflect.Executable;
import java.lang.reflect.Field;
import java.lang.reflect.Member;
import java.lang.reflect.Method;
import java.lang.reflect.Modifier;
import java.util.Arrays;
import java.util.List;
import java.util.Set;
import java.util.TreeSet;
import java.util.stream.Collectors;

/** The public face is the document's and no more; members keep to the rules of LANGUAGE.md that reflection can see. */
public final class FaceTest {
    private static final Set<String> FACE = new TreeSet<>(List.of(
        "int BAD", "int FULL", "int THERE", "int NONE", "int OLD", "SampleStore()",
        "int series(int)", "int append(int,int,int)", "int expire(int)", "void sync()", "int crash()",
        "int count(int,int,int)", "int sum(int,int,int)", "int least(int,int,int)", "int most(int,int,int)",
        "int growth(int,int,int)", "int at(int,int)", "int ranked(int,int,int,int)", "int matching(int)",
        "int length(int)", "boolean level(int)"));
    private static final Set<Class<?>> NUMBERS = Set.of(
        int.class, long.class, short.class, byte.class, char.class, boolean.class);
    private static final Check check = new Check();
    private static final Set<String> seen = new TreeSet<>();

    public static void main(String[] args) {
        Class<?> face = SampleStore.class;
        check.due("class modifiers", face.getModifiers(), Modifier.PUBLIC | Modifier.FINAL);
        check.due("nested classes", face.getDeclaredClasses().length, 0);
        check.due("interfaces", face.getInterfaces().length, 0);
        check.due("superclass is Object", face.getSuperclass() == Object.class, true);
        constants();
        Arrays.stream(face.getDeclaredFields()).forEach(FaceTest::field);
        Arrays.stream(face.getDeclaredConstructors()).forEach(made -> see(made, "SampleStore" + arguments(made)));
        Arrays.stream(face.getDeclaredMethods()).forEach(FaceTest::method);
        privateNames(face);
        check.due("face " + seen + " is " + FACE, seen.equals(FACE), true);
        check.end();
    }

    private static void constants() {
        check.due("BAD", SampleStore.BAD, -10000);
        check.due("FULL", SampleStore.FULL, -10001);
        check.due("THERE", SampleStore.THERE, -10002);
        check.due("NONE", SampleStore.NONE, -10003);
        check.due("OLD", SampleStore.OLD, -10004);
    }

    private static void see(Member member, String told) {
        if (!Modifier.isPrivate(member.getModifiers())) {
            check.due(told + " is public", Modifier.isPublic(member.getModifiers()), true);
            seen.add(told);
        }
    }

    private static String arguments(Executable made) {
        return Arrays.stream(made.getParameterTypes()).map(Class::getName).collect(Collectors.joining(",", "(", ")"));
    }

    private static void field(Field field) {
        Class<?> type = field.getType();
        boolean isStatic = Modifier.isStatic(field.getModifiers());
        Class<?> number = type.isArray() && !isStatic ? type.getComponentType() : type;
        check.due("type of " + field.getName(), NUMBERS.contains(number), true);
        if (isStatic) {
            check.due(field.getName() + " is final", Modifier.isFinal(field.getModifiers()), true);
        }
        see(field, type.getName() + " " + field.getName());
    }

    private static void method(Method method) {
        if (!Modifier.isPrivate(method.getModifiers())) {
            check.due(method.getName() + " is no static method", Modifier.isStatic(method.getModifiers()), false);
        }
        check.due(method.getName() + " takes at most seven", method.getParameterCount() <= 7, true);
        see(method, method.getReturnType().getName() + " " + method.getName() + arguments(method));
    }

    private static void privateNames(Class<?> face) {
        Set<String> names = new TreeSet<>();
        for (Method method : face.getDeclaredMethods()) {
            check.due("one method named " + method.getName(), names.add(method.getName()), true);
        }
    }
}
