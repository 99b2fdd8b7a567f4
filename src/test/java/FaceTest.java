import java.lang.reflect.Constructor;
import java.lang.reflect.Field;
import java.lang.reflect.Method;
import java.lang.reflect.Modifier;
import java.util.Set;
import java.util.TreeSet;

/** The public face is that of the document, no more and no less. */
public final class FaceTest {
    private static final String[] METHODS = {
        "int feed(long)", "int end(int)", "int text()", "int fault()", "int told(int)", "int rate(int,int)",
        "int of(int,int)", "int parts(int)", "long rest(int,int)", "long through(int,int)", "int even(int)",
        "long worth(int)", "long all(int)", "long flow(int)", "long full(int,int)", "long both(int,int,int)",
        "int rule(int,int)", "int shock(int,int,int)", "int atOnce(int,int)", "int round(int,int)",
        "int run(int,int,int,int)", "int coupled(int,int,int,int,int)", "int cells(int,int)",
        "long orders(int,int)", "long ways(int,int,int)", "int view(int,int)", "int seen(int)",
        "int word(int,int)", "int sheet(int,int,int)", "int lay(int,int,int)", "int judge(int,int,int,int)",
        "int count(int)",
    };

    public static void main(String[] args) {
        Check check = new Check("FaceTest");
        Class<?> face = CrowdedLanes.class;
        check.holds("public and final", Modifier.isPublic(face.getModifiers()) && Modifier.isFinal(face.getModifiers()));

        Set<String> due = new TreeSet<>(Set.of(METHODS));
        Set<String> names = new TreeSet<>();
        Set<String> found = new TreeSet<>();
        for (Method m : face.getDeclaredMethods()) {
            if (Modifier.isPublic(m.getModifiers())) {
                found.add(shape(m));
                names.add(m.getName());
            } else {
                check.holds(m + " is private", Modifier.isPrivate(m.getModifiers()));
            }
        }
        check.holds("methods are " + due + " and not " + found, due.equals(found));
        for (Method m : face.getDeclaredMethods()) {
            check.holds(m + " has no public name", Modifier.isPublic(m.getModifiers()) || !names.contains(m.getName()));
        }

        Constructor<?>[] made = face.getDeclaredConstructors();
        check.holds("one public constructor without arguments",
                made.length == 1 && Modifier.isPublic(made[0].getModifiers()) && made[0].getParameterCount() == 0);

        Set<String> constants = new TreeSet<>();
        for (Field f : face.getDeclaredFields()) {
            if (Modifier.isPublic(f.getModifiers())) {
                constants.add(f.getName());
            } else {
                check.holds(f + " is private", Modifier.isPrivate(f.getModifiers()));
            }
            check.holds(f + " is final if static",
                    !Modifier.isStatic(f.getModifiers()) || Modifier.isFinal(f.getModifiers()));
        }
        check.holds("constants", constants.equals(new TreeSet<>(Set.of("BAD", "STATE", "FULL", "NONE", "SPENT"))));
        check.due("BAD", CrowdedLanes.BAD, -1);
        check.due("STATE", CrowdedLanes.STATE, -2);
        check.due("FULL", CrowdedLanes.FULL, -3);
        check.due("NONE", CrowdedLanes.NONE, -4);
        check.due("SPENT", CrowdedLanes.SPENT, -6);

        check.holds("at most twelve classes", face.getDeclaredClasses().length < 12);
        for (Class<?> inside : face.getDeclaredClasses()) {
            check.holds(inside + " is static and not public", Modifier.isStatic(inside.getModifiers())
                    && !Modifier.isPublic(inside.getModifiers()) && !Modifier.isProtected(inside.getModifiers()));
            check.holds(inside + " has at most twenty fields that are no constants", movingFields(inside) <= 20);
            for (Method m : inside.getDeclaredMethods()) {
                check.holds(m + " has no name of the face", !names.contains(m.getName()));
                check.holds(m + " has at most seven parameters", m.getParameterCount() <= 7);
            }
        }
        check.close();
    }

    private static int movingFields(Class<?> inside) {
        int moving = 0;
        for (Field f : inside.getDeclaredFields()) {
            moving += Modifier.isStatic(f.getModifiers()) ? 0 : 1;
        }
        return moving;
    }

    private static String shape(Method m) {
        StringBuilder text = new StringBuilder(m.getReturnType() + " " + m.getName() + "(");
        for (Class<?> p : m.getParameterTypes()) {
            text.append(text.charAt(text.length() - 1) == '(' ? "" : ",").append(p);
        }
        return text + ")";
    }
}
