import java.lang.reflect.Constructor;
import java.lang.reflect.Field;
import java.lang.reflect.Method;
import java.lang.reflect.Modifier;
import java.util.Set;
import java.util.TreeSet;

/** The class has the public face of the document, and nothing else is seen from outside. */
public final class FaceTest {
    private static final Set<String> FACE = Set.of(
        "public static final int OrderedResolver.BAD",
        "public static final int OrderedResolver.NONE",
        "public static final int OrderedResolver.FULL",
        "public OrderedResolver(int)",
        "public int OrderedResolver.add(int)",
        "public int OrderedResolver.retract(int)",
        "public int OrderedResolver.size()",
        "public boolean OrderedResolver.implied(int)",
        "public int OrderedResolver.primes()",
        "public int OrderedResolver.prime(int)",
        "public int OrderedResolver.primeWithin(int)",
        "public int OrderedResolver.models()",
        "public int OrderedResolver.leastModel(int,int)",
        "public int OrderedResolver.redundant()");

    private static final Due due = new Due();

    public static void main(String[] args) {
        Class<?> type = OrderedResolver.class;
        due.is("public and final", type.getModifiers(), Modifier.PUBLIC | Modifier.FINAL);
        due.is("extends Object alone", type.getSuperclass() == Object.class, true);
        due.is("interfaces", type.getInterfaces().length, 0);
        due.is("nested classes", type.getDeclaredClasses().length, 0);
        Set<String> seen = membersSeenFromOutside(type);
        for (String member : FACE) {
            due.is("has " + member, seen.contains(member), true);
        }
        for (String member : seen) {
            due.is("the document has " + member, FACE.contains(member), true);
        }
        privateNamesAreTheirOwn(type);
        staticFieldsAreConstants(type);
        due.end();
    }

    private static Set<String> membersSeenFromOutside(Class<?> type) {
        Set<String> seen = new TreeSet<>();
        for (Field f : type.getDeclaredFields()) {
            if (!Modifier.isPrivate(f.getModifiers())) {
                seen.add(f.toString());
            }
        }
        for (Constructor<?> c : type.getDeclaredConstructors()) {
            if (!Modifier.isPrivate(c.getModifiers())) {
                seen.add(c.toString());
            }
        }
        for (Method m : type.getDeclaredMethods()) {
            if (!Modifier.isPrivate(m.getModifiers())) {
                seen.add(m.toString());
            }
        }
        return seen;
    }

    private static void privateNamesAreTheirOwn(Class<?> type) {
        for (Method hidden : type.getDeclaredMethods()) {
            for (Method open : type.getMethods()) {
                boolean clash = Modifier.isPrivate(hidden.getModifiers())
                    && hidden.getName().equals(open.getName());
                due.is("private " + hidden.getName() + " bears a public name", clash, false);
            }
        }
    }

    private static void staticFieldsAreConstants(Class<?> type) {
        for (Field f : type.getDeclaredFields()) {
            if (Modifier.isStatic(f.getModifiers())) {
                boolean constant = Modifier.isFinal(f.getModifiers())
                    && (f.getType() == int.class || f.getType() == long.class);
                due.is(f.getName() + " is a constant of int or long", constant, true);
            }
        }
    }
}
