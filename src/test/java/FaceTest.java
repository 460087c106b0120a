import java.lang.reflect.Constructor;
import java.lang.reflect.Field;
import java.lang.reflect.Method;
import java.lang.reflect.Modifier;
import java.util.Arrays;
import java.util.Set;
import java.util.TreeSet;

/** The class has the document's face, and nothing else that can be seen from outside. */
public final class FaceTest {
    private static final Checks CHECKS = new Checks();

    private static final String[] METHODS = {
        "int set(int,int)", "int get(int,int)", "int join(int,int,int)", "int apply(int,int,int)", "int sink(int)",
        "int when(int,int,int)", "int other()", "int loop(int,int,int)", "int end()", "int clear()", "int analyse()",
        "int size(int)", "int accepts(int,long)", "int witness(int,int)", "int rounds(int)", "boolean give(int,int)",
        "int run(int)", "int ended()", "long passed(int)", "int place(int)", "int attack(long)",
    };

    public static void main(String[] args) throws Exception {
        Class<?> face = TaintScanner.class;
        CHECKS.holds("public and final", Modifier.isPublic(face.getModifiers()) && Modifier.isFinal(face.getModifiers()));
        CHECKS.holds("no package", face.getPackageName().isEmpty());
        methods(face);
        fields(face);
        Constructor<?>[] constructors = face.getDeclaredConstructors();
        CHECKS.same("constructors", constructors.length, 1);
        CHECKS.holds("the constructor", Modifier.isPublic(constructors[0].getModifiers()) && constructors[0].getParameterCount() == 0);
        classesInside(face);
        CHECKS.close("FaceTest");
    }

    private static void methods(Class<?> face) {
        Set<String> seen = new TreeSet<>();
        Set<String> names = new TreeSet<>();
        for (Method m : face.getDeclaredMethods()) {
            if (Modifier.isPublic(m.getModifiers())) {
                String types = Arrays.toString(Arrays.stream(m.getParameterTypes()).map(Class::getName).toArray());
                seen.add(m.getReturnType().getName() + " " + m.getName() + types.replace("[", "(").replace("]", ")").replace(" ", ""));
                names.add(m.getName());
            }
        }
        CHECKS.holds("the face is " + seen, seen.equals(new TreeSet<>(Arrays.asList(METHODS))));
        for (Method m : face.getDeclaredMethods()) {
            if (!Modifier.isPublic(m.getModifiers())) {
                CHECKS.holds(m + " is private", Modifier.isPrivate(m.getModifiers()));
                CHECKS.holds(m + " has a name of its own", !names.contains(m.getName()));
            }
        }
    }

    private static void fields(Class<?> face) throws Exception {
        for (Field f : face.getDeclaredFields()) {
            if (!f.getName().equals("NONE")) {
                CHECKS.holds(f + " is private", Modifier.isPrivate(f.getModifiers()));
            }
        }
        Field none = face.getDeclaredField("NONE");
        CHECKS.same("NONE is public static final", none.getModifiers(), Modifier.PUBLIC | Modifier.STATIC | Modifier.FINAL);
        CHECKS.same("NONE", none.getInt(null), -1);
    }

    private static void classesInside(Class<?> face) {
        Class<?>[] inside = face.getDeclaredClasses();
        CHECKS.holds("at most twelve classes: " + inside.length, inside.length + 1 <= 12);
        for (Class<?> c : inside) {
            boolean hidden = !Modifier.isPublic(c.getModifiers()) && !Modifier.isProtected(c.getModifiers());
            CHECKS.holds(c + " is hidden and static", hidden && Modifier.isStatic(c.getModifiers()));
            int fields = 0;
            for (Field f : c.getDeclaredFields()) {
                CHECKS.holds(f + " is final, as it is static", !Modifier.isStatic(f.getModifiers()) || Modifier.isFinal(f.getModifiers()));
                fields += Modifier.isStatic(f.getModifiers()) ? 0 : 1;
            }
            CHECKS.holds(c + " has at most twenty fields: " + fields, fields <= 20);
            for (Method m : c.getDeclaredMethods()) {
                CHECKS.holds(m + " has at most seven parameters", m.getParameterCount() <= 7);
            }
        }
    }
}
