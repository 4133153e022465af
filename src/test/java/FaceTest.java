import java.lang.reflect.Array;
import java.lang.reflect.Field;
import java.lang.reflect.Member;
import java.lang.reflect.Method;
import java.lang.reflect.Modifier;
import java.util.Arrays;
import java.util.Collections;
import java.util.IdentityHashMap;
import java.util.Set;
import java.util.TreeSet;

/** The public face of promises 1 to 23, and the room that an object takes. */
public final class FaceTest {
    private static final Check CHECK = new Check("FaceTest");
    private static final String[] FACE = {
        "void trait(int, int) IllegalArgumentException, IllegalStateException",
        "int person(int, int, int) IllegalArgumentException, IllegalStateException",
        "void quota(int, int, int, int) IllegalArgumentException, IllegalStateException",
        "void size(int) IllegalArgumentException, IllegalStateException",
        "long count() UnsupportedOperationException",
        "int states() ",
        "long chance(int) IllegalArgumentException, UnsupportedOperationException",
        "int kind(int) IllegalArgumentException",
        "int blocked(int) IllegalArgumentException, UnsupportedOperationException",
        "int panel(long, int) IllegalArgumentException, UnsupportedOperationException",
        "boolean mark(int) IllegalArgumentException",
        "long rank() NoSuchElementException, UnsupportedOperationException",
        "int dice(int) IllegalArgumentException, UnsupportedOperationException, IllegalStateException",
        "int roll(int) IllegalStateException, IllegalArgumentException",
        "long number() NoSuchElementException",
        "void draw() IllegalStateException",
        "int member(int) IllegalStateException, IllegalArgumentException",
        "void dropOut(int) IllegalStateException, NoSuchElementException",
        "int candidate(int) IllegalArgumentException",
        "int replace() IllegalStateException",
        "int breach() IllegalStateException",
        "void reset() ",
    };

    public static void main(String[] args) throws ReflectiveOperationException {
        faceIsTheDocuments();
        restIsPrivate();
        roomStaysSmall();
        CHECK.finish();
    }

    private static void faceIsTheDocuments() {
        Set<String> got = new TreeSet<>();
        for (Method m : PanelOffice.class.getDeclaredMethods()) {
            if (Modifier.isPublic(m.getModifiers())) {
                got.add(m.getReturnType() + " " + m.getName() + "(" + names(m.getParameterTypes()) + ") " + names(m.getExceptionTypes()));
            }
        }
        CHECK.same("public methods", new TreeSet<>(Arrays.asList(FACE)).toString(), got.toString());
        CHECK.holds("the class is public and final", PanelOffice.class.getModifiers() == (Modifier.PUBLIC | Modifier.FINAL));
        CHECK.holds("one public constructor", PanelOffice.class.getConstructors().length == 1);
    }

    private static String names(Class<?>[] types) {
        return String.join(", ", Arrays.stream(types).map(Class::getSimpleName).toList());
    }

    private static void restIsPrivate() {
        Set<String> face = new TreeSet<>();
        for (Method m : PanelOffice.class.getMethods()) {
            if (m.getDeclaringClass() == PanelOffice.class) {
                face.add(m.getName());
            }
        }
        for (Method m : PanelOffice.class.getDeclaredMethods()) {
            CHECK.holds(m + " is public or private", Modifier.isPublic(m.getModifiers()) || isPrivate(m));
            CHECK.holds(m + " has a name of its own", Modifier.isPublic(m.getModifiers()) || !face.contains(m.getName()));
        }
        for (Field f : PanelOffice.class.getDeclaredFields()) {
            CHECK.holds(f + " is private", isPrivate(f));
        }
        for (Class<?> inside : PanelOffice.class.getDeclaredClasses()) {
            CHECK.holds(inside + " is static", Modifier.isStatic(inside.getModifiers()));
            CHECK.holds(inside + " is not public", !Modifier.isPublic(inside.getModifiers()));
        }
    }

    private static boolean isPrivate(Member m) {
        return Modifier.isPrivate(m.getModifiers());
    }

    /** Even a run that makes an object at each of 512 calls stays within 600,000 objects and 7.3 million elements. */
    private static void roomStaysSmall() throws ReflectiveOperationException {
        Set<Object> seen = Collections.newSetFromMap(new IdentityHashMap<>());
        long elements = elementsFrom(new PanelOffice(), seen);
        CHECK.holds("objects of an office: " + seen.size(), seen.size() * 512L < 600_000);
        CHECK.holds("elements of an office: " + elements, elements * 512L < 7_300_000);
    }

    private static long elementsFrom(Object o, Set<Object> seen) throws ReflectiveOperationException {
        if (o == null || !seen.add(o)) {
            return 0;
        }
        if (o.getClass().isArray()) {
            return Array.getLength(o);
        }
        long sum = 0;
        for (Field f : o.getClass().getDeclaredFields()) {
            if (!Modifier.isStatic(f.getModifiers())) {
                sum++;
                f.setAccessible(true);
                if (!f.getType().isPrimitive()) {
                    sum += elementsFrom(f.get(o), seen);
                }
            }
        }
        return sum;
    }
}
