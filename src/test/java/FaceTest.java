import java.lang.reflect.Constructor;
import java.lang.reflect.Field;
import java.lang.reflect.Method;
import java.lang.reflect.Modifier;
import java.util.Arrays;
import java.util.Set;
import java.util.TreeSet;

/** The face of the class: just the members that the document lists, and none of their names used again inside. */
final class FaceTest {
    private static final String FACE = String.join("\n",
            "int balance(int)",
            "int cost(int, int) IndexOutOfBoundsException",
            "int count(int) IllegalArgumentException",
            "int curve(int) IndexOutOfBoundsException",
            "int hauled(int, int) IndexOutOfBoundsException",
            "int judge()",
            "int litres(int, int) IllegalArgumentException IndexOutOfBoundsException",
            "int station(int, int, int, int, int) IllegalArgumentException IllegalStateException",
            "long area(int, int) IllegalArgumentException IndexOutOfBoundsException",
            "long excess()",
            "long more(int, boolean) IndexOutOfBoundsException",
            "long solve()",
            "long worth()",
            "void beside(int, int, int, int) IllegalArgumentException IndexOutOfBoundsException",
            "void border(int, boolean) IllegalStateException IndexOutOfBoundsException",
            "void clear()",
            "void lay(int, int, int) IllegalArgumentException IndexOutOfBoundsException",
            "void set(int, int) IllegalArgumentException");

    private FaceTest() {
    }

    public static void main(String[] args) {
        Class<EarthHauls> face = EarthHauls.class;
        Check.due("modifiers of the class", face.getModifiers(), Modifier.PUBLIC | Modifier.FINAL);
        methods(face);
        fields(face);
        constructors(face);
        for (Class<?> inside : face.getDeclaredClasses()) {
            Check.due(inside + " is static", Modifier.isStatic(inside.getModifiers()) ? 1 : 0, 1);
            staticFields(inside);
        }
        staticFields(face);
        Check.end();
    }

    private static void methods(Class<?> face) {
        Set<String> open = new TreeSet<>();
        Set<String> openNames = new TreeSet<>();
        for (Method m : face.getDeclaredMethods()) {
            if (!Modifier.isPrivate(m.getModifiers())) {
                open.add(told(m));
                openNames.add(m.getName());
                Check.due("modifiers of " + m, m.getModifiers(), Modifier.PUBLIC);
            }
        }
        Check.dueSame("the methods", String.join("\n", open), FACE);
        for (Method m : face.getDeclaredMethods()) {
            boolean again = Modifier.isPrivate(m.getModifiers()) && openNames.contains(m.getName());
            Check.due("the private method " + m + " bears an open name", again ? 1 : 0, 0);
        }
        for (Class<?> inside : face.getDeclaredClasses()) {
            for (Method m : inside.getDeclaredMethods()) {
                Check.due("the inner method " + m + " bears an open name", openNames.contains(m.getName()) ? 1 : 0, 0);
            }
        }
    }

    private static String told(Method m) {
        StringBuilder text = new StringBuilder(m.getReturnType() + " " + m.getName() + "(");
        text.append(String.join(", ", Arrays.stream(m.getParameterTypes()).map(Class::getName).toList())).append(")");
        Arrays.stream(m.getExceptionTypes()).map(Class::getSimpleName).sorted().forEach(e -> text.append(" ").append(e));
        return text.toString();
    }

    private static void fields(Class<?> face) {
        for (Field f : face.getDeclaredFields()) {
            if (f.getName().equals("NONE")) {
                Check.due("modifiers of NONE", f.getModifiers(), Modifier.PUBLIC | Modifier.STATIC | Modifier.FINAL);
            } else {
                Check.due(f + " is private", Modifier.isPrivate(f.getModifiers()) ? 1 : 0, 1);
            }
        }
    }

    private static void constructors(Class<?> face) {
        Check.due("constructors", face.getDeclaredConstructors().length, 1);
        for (Constructor<?> c : face.getDeclaredConstructors()) {
            Check.due("modifiers of the constructor", c.getModifiers(), Modifier.PUBLIC);
            Check.due("its parameters", c.getParameterCount(), 0);
        }
    }

    private static void staticFields(Class<?> where) {
        for (Field f : where.getDeclaredFields()) {
            if (Modifier.isStatic(f.getModifiers())) {
                Check.due(f + " is final", Modifier.isFinal(f.getModifiers()) ? 1 : 0, 1);
            }
        }
    }
}
