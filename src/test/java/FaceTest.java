import java.lang.reflect.Field;
import java.lang.reflect.Member;
import java.lang.reflect.Method;
import java.lang.reflect.Modifier;
import java.util.Arrays;
import java.util.Set;
import java.util.TreeSet;

/** The public face: just the members that the document names, typed as it types them. */
public final class FaceTest {
    private static int wrong = 0;

    public static void main(String[] args) {
        Class<?> face = WovenDebugger.class;
        check("class", Modifier.toString(face.getModifiers()), "public final");
        check("superclass", face.getSuperclass().getName(), "java.lang.Object");
        check("interfaces", face.getInterfaces().length, 0);
        check("nested classes", face.getDeclaredClasses().length, 0);
        check("constructors", Arrays.toString(face.getDeclaredConstructors()), "[public WovenDebugger()]");
        check("methods", methods(face), new TreeSet<>(Set.of(
            "public int emit(int, int, int)", "public int start(int)", "public int setBreak(int, int)",
            "public int clearBreak(int)", "public int resume(int)", "public int stepInto()",
            "public int stepOver(int)", "public int stepOut(int)", "public int setLocal(int, int)",
            "public int state()", "public int depth()", "public int counter(int)",
            "public int local(int, int)", "public int outputs()", "public int output(int)",
            "public int skip(int)")));
        check("constants", constants(face), new TreeSet<>(Set.of(
            "BAD_OP=-1", "FULL=-2", "BAD_PLACE=-3", "NOT_RUNNING=-4", "NONE=0", "READY=1", "STEPPED=2",
            "AT_BREAK=3", "PAUSED=4", "EXITED=5", "FAULTED=6")));
        System.out.println(wrong == 0 ? "the face is as due" : wrong + " parts of the face are not as due");
        if (wrong != 0) {
            System.exit(1);
        }
    }

    private static Set<String> methods(Class<?> face) {
        Set<String> found = new TreeSet<>();
        for (Method method : face.getDeclaredMethods()) {
            if (!isPrivate(method)) {
                String types = Arrays.toString(method.getParameterTypes()).replace("[", "(").replace("]", ")");
                found.add(Modifier.toString(method.getModifiers()) + " " + method.getReturnType() + " "
                    + method.getName() + types);
            }
        }
        return found;
    }

    private static Set<String> constants(Class<?> face) {
        Set<String> found = new TreeSet<>();
        for (Field field : face.getDeclaredFields()) {
            if (!isPrivate(field)) {
                check(field.getName(), Modifier.toString(field.getModifiers()) + " " + field.getType(),
                    "public static final int");
                found.add(field.getName() + "=" + valueOf(field));
            }
        }
        return found;
    }

    private static boolean isPrivate(Member member) {
        return Modifier.isPrivate(member.getModifiers());
    }

    private static Object valueOf(Field field) {
        try {
            return field.get(null);
        } catch (IllegalAccessException | NullPointerException e) {
            return e.toString();
        }
    }

    private static void check(String what, Object got, Object want) {
        if (!want.equals(got)) {
            wrong++;
            System.out.println(what + ": is " + got + ", due is " + want);
        }
    }
}
