import java.lang.reflect.Field;
import java.lang.reflect.Method;
import java.lang.reflect.Modifier;
import java.util.Set;
import java.util.TreeSet;

/** The public face, and what rules 1, 2, 5 and 10 of LANGUAGE.md say of a class's members. */
public final class FaceTest {
    private static final Set<String> METHODS = Set.of(
        "int atom(int)", "int variable(int)", "int pair(int,int)", "int addRow(int,int,int)",
        "int goal(int,int,int)", "int freeze(int,int,int,int)", "int equal(int,int)",
        "int differ(int,int)", "int solve()", "int solutions()", "int rowOf(int,int)",
        "long valueOf(int,int)", "boolean alike(int,int,int)", "int forget()", "int clear()");

    public static void main(String[] args) {
        constants();
        methods();
        fields();
        Class<?> c = FreezeDif.class;
        Due.due("public and final", c.getModifiers(), Modifier.PUBLIC | Modifier.FINAL);
        Due.due("nested classes", c.getDeclaredClasses().length, 0);
        Due.due("constructors", c.getDeclaredConstructors().length, 1);
        Due.due("public constructors", c.getConstructors().length, 1);
        Due.finish();
    }

    private static void constants() {
        Due.due("BAD", FreezeDif.BAD, -1);
        Due.due("FULL", FreezeDif.FULL, -2);
        Due.due("LOOSE", FreezeDif.LOOSE, -3);
        Due.due("UNSOLVED", FreezeDif.UNSOLVED, -4);
    }

    private static void methods() {
        Set<String> open = new TreeSet<>();
        Set<String> openNames = new TreeSet<>();
        Set<String> hiddenNames = new TreeSet<>();
        for (Method m : FreezeDif.class.getDeclaredMethods()) {
            if (Modifier.isPrivate(m.getModifiers())) {
                hiddenNames.add(m.getName());
                continue;
            }
            String parameters = "";
            for (Class<?> p : m.getParameterTypes()) {
                parameters += (parameters.isEmpty() ? "" : ",") + p.getName();
            }
            open.add(m.getReturnType().getName() + " " + m.getName() + "(" + parameters + ")");
            openNames.add(m.getName());
            Due.due("public " + m.getName(), m.getModifiers(), Modifier.PUBLIC);
        }
        Due.due("the methods are " + open + ", the document's", open.equals(METHODS), true);
        hiddenNames.retainAll(openNames);
        Due.due("names of both kinds " + hiddenNames, hiddenNames.size(), 0);
    }

    private static void fields() {
        Set<String> open = new TreeSet<>();
        int inObject = 0;
        for (Field f : FreezeDif.class.getDeclaredFields()) {
            Class<?> type = f.getType();
            Class<?> part = type.isArray() ? type.getComponentType() : type;
            Due.due("numbers in " + f.getName(), part.isPrimitive(), true);
            if (!Modifier.isPrivate(f.getModifiers())) {
                open.add(f.getName());
            }
            if (Modifier.isStatic(f.getModifiers())) {
                boolean constant = Modifier.isFinal(f.getModifiers()) && !type.isArray();
                Due.due("a constant: " + f.getName(), constant, true);
            } else {
                inObject++;
            }
        }
        Set<String> named = Set.of("BAD", "FULL", "LOOSE", "UNSOLVED");
        Due.due("the open fields are " + open, open.equals(named), true);
        Due.due("at most forty fields", inObject <= 40, true);
    }
}
