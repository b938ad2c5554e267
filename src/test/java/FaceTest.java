import java.lang.reflect.Constructor;
import java.lang.reflect.Field;
import java.lang.reflect.Method;
import java.lang.reflect.Modifier;
import java.util.Set;
import java.util.TreeSet;

/** The public face as the document has it, nothing beside it, and rules 1, 5 and 11 of ../shared/LANGUAGE.md. */
final class FaceTest {
    private static final Check C = new Check();
    private static final Set<String> METHODS = Set.of("int letters(long)", "int blank()", "int fault()", "int wire()",
        "int cabin(int,int)", "int thing(int,int,int)", "int about(int,int)", "int as(int,int)", "int carry(int)",
        "int hour(int)", "int even(int)", "int soonest(int,int)", "int caught(int)", "int weighed(int,int)",
        "int forget()", "int fits(int)", "long lasts(int,int)", "int whirls(int,int,int)", "int image()",
        "int restore()", "int count(int)", "long digest()");

    public static void main(String[] args) {
        constants();
        methods();
        classes();
        C.end("FaceTest");
    }

    private static void constants() {
        C.due("NONE", TwoOnACable.NONE, -1);
        C.due("UNKNOWN", TwoOnACable.UNKNOWN, -101);
        C.due("OUTSIDE", TwoOnACable.OUTSIDE, -102);
        C.due("STATE", TwoOnACable.STATE, -103);
        C.due("FULL", TwoOnACable.FULL, -104);
        Set<String> names = new TreeSet<>();
        for (Field f : TwoOnACable.class.getDeclaredFields()) {
            if (!Modifier.isPrivate(f.getModifiers())) {
                names.add(f.getName());
                C.due(f.getName() + " is public static final", f.getModifiers(),
                    Modifier.PUBLIC | Modifier.STATIC | Modifier.FINAL);
                C.holds(f.getName() + " is an int", f.getType() == int.class);
            }
        }
        C.holds("the constants: " + names, names.equals(Set.of("NONE", "UNKNOWN", "OUTSIDE", "STATE", "FULL")));
    }

    private static void methods() {
        C.due("the class is public final", TwoOnACable.class.getModifiers(), Modifier.PUBLIC | Modifier.FINAL);
        Constructor<?>[] made = TwoOnACable.class.getDeclaredConstructors();
        C.due("constructors", made.length, 1);
        C.due("it is public", made[0].getModifiers(), Modifier.PUBLIC);
        C.due("it takes nothing", made[0].getParameterCount(), 0);
        Set<String> open = new TreeSet<>();
        Set<String> names = new TreeSet<>();
        for (Method m : TwoOnACable.class.getDeclaredMethods()) {
            if (!Modifier.isPrivate(m.getModifiers())) {
                open.add(signature(m));
                names.add(m.getName());
                C.due(m.getName() + " is public alone", m.getModifiers(), Modifier.PUBLIC);
            }
        }
        C.holds("the methods: " + open, open.equals(METHODS));
        for (Method m : TwoOnACable.class.getDeclaredMethods()) {
            C.holds(m.getName() + " is no private namesake",
                !Modifier.isPrivate(m.getModifiers()) || !names.contains(m.getName()));
        }
    }

    private static String signature(Method m) {
        StringBuilder parts = new StringBuilder();
        for (Class<?> part : m.getParameterTypes()) {
            parts.append(parts.length() == 0 ? "" : ",").append(part.getName());
        }
        return m.getReturnType().getName() + " " + m.getName() + "(" + parts + ")";
    }

    private static void classes() {
        Class<?>[] inside = TwoOnACable.class.getDeclaredClasses();
        C.holds("twelve classes at most", inside.length + 1 <= 12);
        for (Class<?> one : inside) {
            C.holds(one + " is private and static",
                Modifier.isPrivate(one.getModifiers()) && Modifier.isStatic(one.getModifiers()));
            own(one);
        }
        own(TwoOnACable.class);
    }

    private static void own(Class<?> one) {
        int fields = 0;
        for (Field f : one.getDeclaredFields()) {
            if (Modifier.isStatic(f.getModifiers())) {
                C.holds(f + " is final", Modifier.isFinal(f.getModifiers()));
            } else {
                fields++;
            }
        }
        C.holds(one + " has twenty fields at most", fields <= 20);
        for (Method m : one.getDeclaredMethods()) {
            C.holds(m + " takes seven at most", m.getParameterCount() <= 7);
        }
    }
}
