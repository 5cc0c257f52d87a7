import java.lang.reflect.Constructor;
import java.lang.reflect.Field;
import java.lang.reflect.Method;
import java.lang.reflect.Modifier;
import java.util.Set;
import java.util.TreeSet;

/** The public face: what the document names, and nothing else that is not private. */
public final class FaceTest {
    public static void main(String[] args) {
        Check check = new Check();
        Class<?> face = ExitFlows.class;
        check.that("public and final", Modifier.isPublic(face.getModifiers()) && Modifier.isFinal(face.getModifiers()));
        check.that("no class above", face.getSuperclass() == Object.class && face.getInterfaces().length == 0);
        Constructor<?>[] constructors = face.getDeclaredConstructors();
        check.that("one public constructor", constructors.length == 1
                && Modifier.isPublic(constructors[0].getModifiers()) && constructors[0].getParameterCount() == 0);
        check.that("methods", methods(face).equals(new TreeSet<>(Set.of("room3", "safe2", "passage4", "widen2",
                "shut2", "say1", "wipe0", "fault0", "read0", "told2", "of2", "out1", "last0", "helps0", "needed0",
                "door1", "rush1", "rushed0", "image1", "restore1", "count1"))));
        check.that("constants", constants(face).equals(new TreeSet<>(
                Set.of("UNKNOWN", "OUTSIDE", "STATE", "FULL", "NONE", "FAULT"))));
        check.due("UNKNOWN", ExitFlows.UNKNOWN, -1);
        check.due("OUTSIDE", ExitFlows.OUTSIDE, -2);
        check.due("STATE", ExitFlows.STATE, -3);
        check.due("FULL", ExitFlows.FULL, -4);
        check.due("NONE", ExitFlows.NONE, -6);
        check.due("FAULT", ExitFlows.FAULT, -7);
        check.end();
    }

    private static Set<String> methods(Class<?> face) {
        Set<String> names = new TreeSet<>();
        Set<String> own = new TreeSet<>();
        for (Method method : face.getDeclaredMethods()) {
            if (Modifier.isPrivate(method.getModifiers())) {
                own.add(method.getName());
            } else {
                boolean ints = method.getReturnType() == int.class && !Modifier.isStatic(method.getModifiers());
                for (Class<?> type : method.getParameterTypes()) {
                    ints &= type == int.class;
                }
                names.add(ints ? method.getName() + method.getParameterCount() : "not of ints: " + method);
            }
        }
        for (Class<?> inside : face.getDeclaredClasses()) {
            for (Method method : inside.getDeclaredMethods()) {
                own.add(method.getName());
            }
            if (!Modifier.isStatic(inside.getModifiers()) || Modifier.isPublic(inside.getModifiers())) {
                names.add("a class inside that is not static, or public: " + inside);
            }
        }
        for (Method method : face.getMethods()) {
            if (own.contains(method.getName())) {
                names.add("private, but named like a public one: " + method.getName());
            }
        }
        return names;
    }

    private static Set<String> constants(Class<?> face) {
        Set<String> names = new TreeSet<>();
        for (Field field : face.getDeclaredFields()) {
            int is = field.getModifiers();
            if (!Modifier.isPrivate(is)) {
                boolean constant = Modifier.isPublic(is) && Modifier.isStatic(is) && Modifier.isFinal(is);
                names.add(constant && field.getType() == int.class ? field.getName() : "no constant: " + field);
            }
        }
        return names;
    }
}
