import java.io.IOException;
import java.lang.reflect.Method;
import java.lang.reflect.Modifier;
import java.nio.file.Files;
import java.nio.file.Path;
import java.util.ArrayList;
import java.util.List;

/**
 * README.md tells the truth: the calls of its example answer what it says, line by line, and every
 * call of the public face is told with its types. It is run from the folder that README.md is in.
 */
public final class ReadmeTest {
    private static final List<String> made = new ArrayList<>();

    public static void main(String[] args) throws IOException {
        List<String> readme = Files.readAllLines(Path.of("README.md"));
        example();
        sameLines(exampleOf(readme), made);
        everyCallIsTold(readme);
        Due.finish();
    }

    /** The calls of README.md's example, as it writes them, with what they answer here. */
    private static void example() {
        FreezeDif x = new FreezeDif(2);
        made.add("FreezeDif x = new FreezeDif(2); // variables 0 and 1");
        int a = answered("int a = x.atom(0);", x.atom(0));
        int b = answered("int b = x.atom(1);", x.atom(1));
        int s = answered("int s = x.variable(0);", x.variable(0));
        int t = answered("int t = x.variable(1);", x.variable(1));
        int ab = answered("int ab = x.pair(a, b);", x.pair(a, b));
        int at = answered("int at = x.pair(a, t);", x.pair(a, t));
        answered("x.addRow(0, a, a);", x.addRow(0, a, a));
        answered("x.addRow(0, a, b);", x.addRow(0, a, b));
        answered("x.addRow(0, b, ab);", x.addRow(0, b, ab));
        answered("x.differ(s, t);", x.differ(s, t));
        answered("x.solve();", x.solve());
        answered("x.freeze(1, 0, s, t);", x.freeze(1, 0, s, t));
        answered("x.solve();", x.solve());
        answered("x.rowOf(0, 0);", x.rowOf(0, 0));
        answered("x.valueOf(0, 1);", x.valueOf(0, 1));
        answered("x.valueOf(1, 1);", x.valueOf(1, 1));
        made.add("x.alike(0, 1, 2); // " + x.alike(0, 1, 2));
        answered("x.addRow(0, a, b);", x.addRow(0, a, b));
        answered("x.solutions();", x.solutions());
        answered("x.goal(0, b, at);", x.goal(0, b, at));
        answered("x.solutions();", x.solutions());
        answered("x.solve();", x.solve());
        answered("x.rowOf(0, 0);", x.rowOf(0, 0));
        answered("x.rowOf(0, 1);", x.rowOf(0, 1));
        answered("x.forget();", x.forget());
        answered("x.clear();", x.clear());
    }

    private static int answered(String call, long answer) {
        String[] refusals = {"BAD", "FULL", "LOOSE", "UNSOLVED"};
        made.add(call + " // " + (answer < 0 ? refusals[(int) (-1 - answer)] : "" + answer));
        return (int) answer;
    }

    /** The lines of the first Java example: each call and its answer, without words behind it. */
    private static List<String> exampleOf(List<String> readme) {
        List<String> lines = new ArrayList<>();
        int at = readme.indexOf("```java") + 1;
        while (at > 0 && at < readme.size() && !readme.get(at).equals("```")) {
            String[] parts = readme.get(at).split(" *// ", 2);
            lines.add(parts[0] + " // " + parts[parts.length - 1].split(", ")[0]);
            at++;
        }
        return lines;
    }

    private static void sameLines(List<String> told, List<String> want) {
        Due.due("lines of the example", told.size(), want.size());
        for (int i = 0; i < told.size() && i < want.size(); i++) {
            String what = "README.md has " + told.get(i) + ", the class " + want.get(i);
            Due.due(what, told.get(i).equals(want.get(i)), true);
        }
    }

    /** A pattern for the parameters' types, each with a name behind it. */
    private static String parameters(Method m) {
        List<String> all = new ArrayList<>();
        for (Class<?> type : m.getParameterTypes()) {
            all.add(type.getName() + " \\w+");
        }
        return String.join(", ", all);
    }

    private static void everyCallIsTold(List<String> readme) {
        for (Method m : FreezeDif.class.getDeclaredMethods()) {
            if (Modifier.isPublic(m.getModifiers())) {
                String row = "\\| `" + m.getReturnType().getName() + " " + m.getName() + "\\("
                    + parameters(m) + "\\)` \\|.*";
                long rows = readme.stream().filter(line -> line.matches(row)).count();
                Due.due("rows of README.md of the form " + row, rows, 1);
            }
        }
    }
}
