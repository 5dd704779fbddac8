import java.lang.reflect.Constructor;
import java.lang.reflect.Field;
import java.lang.reflect.Method;
import java.lang.reflect.Modifier;
import java.util.Arrays;
import java.util.Set;
import java.util.TreeSet;

/** The public face is the document's, with nothing more. */
public final class FaceTest {
    private static final String[] METHODS = {
        "int row(int,int,int,int,int,int)", "int drops(int)", "int sets(int,int,int)", "int of(int,int)",
        "int can(int)", "int dimension(int)", "long bound(int,int,int,int)", "int brings(int,int)",
        "int spare(int)", "int same(int,int)", "long point(int,int,int)", "int core(int)",
        "int times(int,int)", "int between(int)", "int sides(int)", "int formula(int)", "int type(int)",
        "int clear()", "int reads()", "int shown(int,int)", "int back()", "int told(int)", "long digest()",
    };

    public static void main(String[] args) {
        Check check = new Check("FaceTest");
        check.holds("public and final", Modifier.isPublic(RowsMeet.class.getModifiers())
                && Modifier.isFinal(RowsMeet.class.getModifiers()));
        check.due("NONE", RowsMeet.NONE, -1000001);
        check.due("BAD", RowsMeet.BAD, -1000002);
        check.due("NO", RowsMeet.NO, -1000003);
        check.due("FULL", RowsMeet.FULL, -1000004);
        checkMethods(check);
        checkFields(check);
        Constructor<?>[] made = RowsMeet.class.getDeclaredConstructors();
        check.holds("one public constructor", made.length == 1 && Modifier.isPublic(made[0].getModifiers())
                && made[0].getParameterCount() == 0);
        check.end();
    }

    private static void checkMethods(Check check) {
        Set<String> seen = new TreeSet<>();
        Set<String> names = new TreeSet<>();
        for (Method m : RowsMeet.class.getDeclaredMethods()) {
            if (!Modifier.isPrivate(m.getModifiers())) {
                String types = Arrays.toString(m.getParameterTypes()).replace(" ", "");
                seen.add(m.getReturnType() + " " + m.getName() + "(" + types.substring(1, types.length() - 1) + ")");
                names.add(m.getName());
            }
        }
        check.holds("the methods " + seen, seen.equals(new TreeSet<>(Arrays.asList(METHODS))));
        for (Class<?> inner : RowsMeet.class.getDeclaredClasses()) {
            check.holds(inner + " is static", Modifier.isStatic(inner.getModifiers()));
            for (Method m : inner.getDeclaredMethods()) {
                check.holds("no inner method bears a public name: " + m, !names.contains(m.getName()));
            }
        }
    }

    private static void checkFields(Check check) {
        Set<String> seen = new TreeSet<>();
        for (Field f : RowsMeet.class.getDeclaredFields()) {
            if (!Modifier.isPrivate(f.getModifiers())) {
                seen.add(f.getName());
            }
        }
        check.holds("the constants " + seen, seen.equals(Set.of("NONE", "BAD", "NO", "FULL")));
    }
}
