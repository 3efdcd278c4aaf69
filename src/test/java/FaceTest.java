import java.lang.reflect.Constructor;
import java.lang.reflect.Field;
import java.lang.reflect.Method;
import java.lang.reflect.Modifier;
import java.util.Set;
import java.util.TreeSet;

/** The public face is the document's, and nothing else of the class can be seen from outside. */
final class FaceTest {
    private static final String[] FACE = {
        "int bits()", "int add(int,int)", "int subtract(int,int)", "int multiply(int,int)",
        "int divide(int,int)", "int root(int)", "int fused(int,int,int)", "int whole(int)",
        "int next(int)", "int fromLong(long)", "long toLong(int)", "int convert(int,int)",
        "boolean clear(int)", "boolean collect(int,int,int,boolean)", "boolean merge(int)",
        "boolean negate(int)", "int total(int)", "long word(int,int)", "int compare(int,int)",
    };

    public static void main(String[] args) {
        Check check = new Check("FaceTest");
        Class<?> c = TaperedQuire.class;
        check.due("public final class", Modifier.isPublic(c.getModifiers()) && Modifier.isFinal(c.getModifiers()), true);
        Constructor<?>[] made = c.getDeclaredConstructors();
        check.due("one constructor", made.length, 1);
        check.due("public constructor", Modifier.isPublic(made[0].getModifiers()), true);
        check.due("TaperedQuire(int)", made[0].toString().endsWith("TaperedQuire(int)"), true);
        methods(check, c);
        for (Field f : c.getDeclaredFields()) {
            check.due("private field " + f.getName(), Modifier.isPrivate(f.getModifiers()), true);
            check.due("no static state " + f.getName(), !Modifier.isStatic(f.getModifiers()) || Modifier.isFinal(f.getModifiers()), true);
        }
        for (Class<?> inside : c.getDeclaredClasses()) {
            int m = inside.getModifiers();
            check.due("static class " + inside.getName(), Modifier.isStatic(m) && !Modifier.isPublic(m) && !Modifier.isProtected(m), true);
        }
        check.end();
    }

    private static void methods(Check check, Class<?> c) {
        Set<String> want = new TreeSet<>(Set.of(FACE));
        Set<String> names = new TreeSet<>();
        for (String face : FACE) {
            names.add(face.substring(face.indexOf(' ') + 1, face.indexOf('(')));
        }
        for (Method m : c.getDeclaredMethods()) {
            if (Modifier.isPrivate(m.getModifiers())) {
                check.due("private " + m.getName() + " bears a public name", names.contains(m.getName()), false);
                continue;
            }
            check.due("of the face: " + signature(m), want.remove(signature(m)), true);
            check.due("public: " + m.getName(), Modifier.isPublic(m.getModifiers()) && !Modifier.isStatic(m.getModifiers()), true);
        }
        check.due("missing " + want, want.size(), 0);
    }

    private static String signature(Method m) {
        StringBuilder text = new StringBuilder(m.getReturnType().getName()).append(' ').append(m.getName()).append('(');
        String between = "";
        for (Class<?> p : m.getParameterTypes()) {
            text.append(between).append(p.getName());
            between = ",";
        }
        return text.append(')').toString();
    }
}
