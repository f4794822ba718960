import java.lang.reflect.Constructor;
import java.lang.reflect.Field;
import java.lang.reflect.Method;
import java.lang.reflect.Modifier;
import java.util.Arrays;
import java.util.Set;
import java.util.TreeSet;

/** The document's public face and nothing beside it, and what LANGUAGE.md says of classes, fields and names. */
public final class FaceTest {
    private static final String[] FACE = {
        "int feed(int, int, int, int, int)", "boolean end(int)", "int text()", "long key(int)", "int worth(int)",
        "int add(long, int)", "int gone(long)", "int turn(int, int)", "int set(int, int)", "long hash(long, int)",
        "int cell(long, int)", "int print(long)", "int load(int)", "int twins()", "int peel(int, int)",
        "int core(int)", "int level(int)", "int rank()", "int mend(int)", "int tight()", "int peels(int)",
        "int wake(int, int)", "int build(int)", "int built(int)", "int filled(int, boolean)", "boolean passes(long)",
        "int told(long)", "int right()", "int strangers(long, int, int)", "boolean shelf(int, boolean)",
        "int unlike(int)", "int undo()", "int count(int)",
    };
    private static int wrong = 0;

    public static void main(String[] args) {
        Class<?> face = TripleSieve.class;
        Set<String> methods = new TreeSet<>();
        Set<String> names = new TreeSet<>();
        for (Method m : face.getDeclaredMethods()) {
            if (!Modifier.isPrivate(m.getModifiers()) && !m.isSynthetic()) {
                methods.add(written(m));
                names.add(m.getName());
                check(Modifier.isPublic(m.getModifiers()) && !Modifier.isStatic(m.getModifiers()), written(m));
            }
        }
        check(methods.equals(new TreeSet<>(Arrays.asList(FACE))), "the methods are " + methods);
        check(Modifier.isPublic(face.getModifiers()) && Modifier.isFinal(face.getModifiers()), "public and final");
        Constructor<?>[] makers = face.getDeclaredConstructors();
        check(makers.length == 1 && makers[0].getParameterCount() == 0 && Modifier.isPublic(makers[0].getModifiers()),
            "one public constructor");
        check(TripleSieve.NONE == -1, "NONE is -1");
        checkFields(face);
        checkNames(face, names);
        Class<?>[] inside = face.getDeclaredClasses();
        check(inside.length <= 12, inside.length + " classes inside");
        for (Class<?> c : inside) {
            check(Modifier.isStatic(c.getModifiers()) && !Modifier.isPublic(c.getModifiers()), c + " is static");
            checkFields(c);
            checkNames(c, names);
        }
        System.out.println(wrong == 0 ? "the face is as due" : wrong + " things of the face are not as due");
        if (wrong != 0) {
            System.exit(1);
        }
    }

    private static void check(boolean good, String what) {
        if (!good) {
            wrong++;
            System.out.println("not as due: " + what);
        }
    }

    private static String written(Method m) {
        StringBuilder s = new StringBuilder();
        s.append(m.getReturnType().getSimpleName()).append(' ').append(m.getName()).append('(');
        for (Class<?> p : m.getParameterTypes()) {
            s.append(s.charAt(s.length() - 1) == '(' ? "" : ", ").append(p.getSimpleName());
        }
        return s.append(')').toString();
    }

    private static void checkFields(Class<?> c) {
        int own = 0;
        for (Field f : c.getDeclaredFields()) {
            if (f.isSynthetic()) {
                continue;
            }
            int mods = f.getModifiers();
            boolean face = c == TripleSieve.class && f.getName().equals("NONE");
            check(face ? Modifier.isPublic(mods) : Modifier.isPrivate(mods), f + " is private");
            check(!Modifier.isStatic(mods) || Modifier.isFinal(mods), f + " is final");
            own += Modifier.isStatic(mods) ? 0 : 1;
        }
        check(own <= 20, c + " has " + own + " fields");
    }

    private static void checkNames(Class<?> c, Set<String> names) {
        for (Method m : c.getDeclaredMethods()) {
            check(m.getParameterCount() <= 7, m + " has seven parameters at most");
            boolean own = c == TripleSieve.class && Modifier.isPublic(m.getModifiers());
            check(own || !names.contains(m.getName()), m + " bears the name of a public one");
        }
    }
}
