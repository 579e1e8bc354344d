import java.lang.reflect.Constructor;
import java.lang.reflect.Field;
import java.lang.reflect.Member;
import java.lang.reflect.Method;
import java.lang.reflect.Modifier;
import java.util.Set;
import java.util.TreeSet;

/** The document's face, whole and alone. */
public final class FaceTest {
    private static final String[] FACE = {
        "public MonotoneSpline()",
        "public int MonotoneSpline.addPoint(double,double,double)"
            + " throws java.lang.IllegalArgumentException,java.lang.IllegalStateException",
        "public int MonotoneSpline.removePoint(int) throws java.lang.IndexOutOfBoundsException",
        "public int MonotoneSpline.pointCount()",
        "public double MonotoneSpline.pointPlace(int) throws java.lang.IndexOutOfBoundsException",
        "public int MonotoneSpline.fit() throws java.lang.IllegalStateException",
        "public int MonotoneSpline.knotCount()",
        "public double MonotoneSpline.knotPlace(int) throws java.lang.IndexOutOfBoundsException",
        "public double MonotoneSpline.knotValue(int) throws java.lang.IndexOutOfBoundsException",
        "public double MonotoneSpline.knotSlope(int) throws java.lang.IndexOutOfBoundsException",
        "public boolean MonotoneSpline.isFixed(int) throws java.lang.IndexOutOfBoundsException",
        "public int MonotoneSpline.insertKnot(double)"
            + " throws java.lang.IllegalArgumentException,java.lang.IllegalStateException",
        "public int MonotoneSpline.removeKnot(int)"
            + " throws java.lang.IndexOutOfBoundsException,java.lang.IllegalArgumentException",
        "public double MonotoneSpline.setKnotValue(int,double)"
            + " throws java.lang.IndexOutOfBoundsException,java.lang.IllegalArgumentException",
        "public double MonotoneSpline.fixSlope(int,double)"
            + " throws java.lang.IndexOutOfBoundsException,java.lang.IllegalArgumentException",
        "public boolean MonotoneSpline.freeSlope(int) throws java.lang.IndexOutOfBoundsException",
        "public double MonotoneSpline.value(double) throws java.lang.IllegalArgumentException",
        "public double MonotoneSpline.slope(double) throws java.lang.IllegalArgumentException",
        "public double MonotoneSpline.area(double,double) throws java.lang.IllegalArgumentException",
        "public double MonotoneSpline.reach(double) throws java.lang.IllegalArgumentException",
        "public int MonotoneSpline.steepest()",
        "public int MonotoneSpline.flatCount()",
        "public int MonotoneSpline.setTail(int,int,double)"
            + " throws java.lang.IndexOutOfBoundsException,java.lang.IllegalArgumentException",
        "public double MonotoneSpline.limit(int)"
            + " throws java.lang.IndexOutOfBoundsException,java.lang.IllegalStateException",
        "public long MonotoneSpline.digest()",
    };

    private static final Checks checks = new Checks("FaceTest");

    private static boolean isOpen(Member member) {
        return !Modifier.isPrivate(member.getModifiers());
    }

    private static void openMembers() {
        Set<String> due = new TreeSet<>(Set.of(FACE));
        Set<String> found = new TreeSet<>();
        for (Constructor<?> maker : MonotoneSpline.class.getDeclaredConstructors()) {
            if (isOpen(maker)) {
                found.add(maker.toGenericString().replace(", ", ","));
            }
        }
        for (Method method : MonotoneSpline.class.getDeclaredMethods()) {
            if (isOpen(method)) {
                found.add(method.toGenericString().replace(", ", ","));
            }
        }
        for (Field field : MonotoneSpline.class.getDeclaredFields()) {
            if (isOpen(field)) {
                found.add(field.toGenericString());
            }
        }
        checks.same("the open members", String.join("\n", found), String.join("\n", due));
    }

    private static void hiddenMembers() {
        Set<String> open = new TreeSet<>();
        for (Method method : MonotoneSpline.class.getDeclaredMethods()) {
            if (isOpen(method)) {
                open.add(method.getName());
            }
        }
        for (Method method : MonotoneSpline.class.getDeclaredMethods()) {
            checks.isTrue(method + " bears a name of its own", isOpen(method) || !open.contains(method.getName()));
            checks.isTrue(method + " has at most seven parameters", method.getParameterCount() <= 7);
        }
        for (Class<?> inside : MonotoneSpline.class.getDeclaredClasses()) {
            int modifiers = inside.getModifiers();
            checks.isTrue(inside + " is hidden", !Modifier.isPublic(modifiers) && !Modifier.isProtected(modifiers));
            checks.isTrue(inside + " is static", Modifier.isStatic(modifiers));
            for (Method method : inside.getDeclaredMethods()) {
                checks.isTrue(method + " bears a name of its own", !open.contains(method.getName()));
                checks.isTrue(method + " has at most seven parameters", method.getParameterCount() <= 7);
            }
            fieldsOf(inside);
        }
        fieldsOf(MonotoneSpline.class);
    }

    private static void fieldsOf(Class<?> owner) {
        Set<Class<?>> constants = Set.of(int.class, long.class, boolean.class, char.class, String.class);
        int own = 0;
        for (Field field : owner.getDeclaredFields()) {
            if (Modifier.isStatic(field.getModifiers())) {
                checks.isTrue(field + " is a constant",
                    Modifier.isFinal(field.getModifiers()) && constants.contains(field.getType()));
            } else {
                own++;
            }
        }
        checks.isTrue(owner + " has at most twenty fields", own <= 20);
    }

    public static void main(String[] args) {
        checks.isTrue("the class is public and final",
            Modifier.isPublic(MonotoneSpline.class.getModifiers())
                && Modifier.isFinal(MonotoneSpline.class.getModifiers()));
        checks.isTrue("the class has no package", MonotoneSpline.class.getPackageName().isEmpty());
        checks.isTrue("at most twelve classes", MonotoneSpline.class.getDeclaredClasses().length < 12);
        openMembers();
        hiddenMembers();
        checks.end();
    }
}
