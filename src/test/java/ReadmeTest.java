import java.io.IOException;
import java.lang.reflect.Method;
import java.lang.reflect.Modifier;
import java.nio.file.Files;
import java.nio.file.Path;
import java.util.ArrayList;
import java.util.Arrays;
import java.util.List;
import java.util.function.IntSupplier;

/** README.md: its example answers as it says, and its tables tell every call and every number. */
public final class ReadmeTest {
    private static final String[] NUMBERS = {
        "GROW", "SHRINK", "BASIS", "LEAST", "MOST", "ALIGN", "ORDER", "HIDDEN", "WIDE", "HIGH", "GAP", "PAD", "JUSTIFY", "WRAP"
    };

    private static final List<String> told = new ArrayList<>();

    public static void main(String[] args) throws IOException {
        String readme = Files.readString(Path.of("README.md"));
        playExample();
        Check.same("the example", String.join("\n", exampleOf(readme)), String.join("\n", told));
        tellsCalls(readme);
        tellsNumbers(readme);
        Check.isTrue("README.md says how to run the tests", readme.contains("    .ci/run\n"));
        Check.end("ReadmeTest");
    }

    private static void playExample() {
        StretchedRows x = new StretchedRows();
        told.add("StretchedRows x = new StretchedRows();");
        tell("x.node(StretchedRows.NONE, StretchedRows.ROW);", () -> x.node(StretchedRows.NONE, StretchedRows.ROW));
        tell("x.node(0, StretchedRows.TEXT);", () -> x.node(0, StretchedRows.TEXT));
        tell("x.word(1, 30);", () -> x.word(1, 30));
        tell("x.word(1, 20);", () -> x.word(1, 20));
        tell("x.node(0, StretchedRows.GRID);", () -> x.node(0, StretchedRows.GRID));
        tell("x.track(2, true, 1);", () -> x.track(2, true, 1));
        tell("x.node(2, StretchedRows.BOX);", () -> x.node(2, StretchedRows.BOX));
        x.set(3, StretchedRows.WIDE, 40);
        told.add("x.set(3, StretchedRows.WIDE, 40);");
        x.set(3, StretchedRows.HIGH, 15);
        told.add("x.set(3, StretchedRows.HIGH, 15);");
        x.set(2, StretchedRows.GROW, 1);
        told.add("x.set(2, StretchedRows.GROW, 1);");
        tell("x.nodes();", () -> x.nodes());
        tell("x.natural(0);", () -> x.natural(0));
        tell("x.layout(120);", () -> x.layout(120));
        tell("x.where(2, 0);", () -> x.where(2, 0));
        tell("x.where(2, 1);", () -> x.where(2, 1));
        tell("x.where(2, 2);", () -> x.where(2, 2));
        tell("x.where(2, 3);", () -> x.where(2, 3));
        tell("x.at(60, 5);", () -> x.at(60, 5));
        tell("x.at(120, 5);", () -> x.at(120, 5));
        tell("x.layout(60);", () -> x.layout(60));
        tell("x.lines(1);", () -> x.lines(1));
        tell("x.remove(2);", () -> x.remove(2));
        tell("x.where(2, 0);", () -> x.where(2, 0));
        tell("x.at(50, 5);", () -> x.at(50, 5));
    }

    private static void tell(String statement, IntSupplier call) {
        String answer;
        try {
            answer = Integer.toString(call.getAsInt());
        } catch (RuntimeException e) {
            answer = "throws " + e.getClass().getSimpleName();
        }
        told.add(statement + " // " + answer);
    }

    /** The lines of the example with one space before each answer and without what explains it. */
    private static List<String> exampleOf(String readme) {
        List<String> lines = new ArrayList<>();
        String block = readme.split("```java\n")[1].split("```")[0];
        for (String line : block.split("\n")) {
            lines.add(line.replaceAll(" +//", " //").replaceAll("(// [^:]*): .*", "$1"));
        }
        return lines;
    }

    /** A call's row has an entry below each exception that the face says it throws, and none below another. */
    private static void tellsCalls(String readme) {
        for (Method method : StretchedRows.class.getDeclaredMethods()) {
            if (Modifier.isPublic(method.getModifiers())) {
                String[] cells = rowOf(readme, "| `" + method.getName() + "(").split(" *\\| *", -1);
                Check.same("cells of " + method.getName(), cells.length, 6);
                List<Class<?>> thrown = Arrays.asList(method.getExceptionTypes());
                Check.same(method.getName() + " throws IllegalArgumentException",
                    cells[3].isEmpty() ? 0 : 1, thrown.contains(IllegalArgumentException.class) ? 1 : 0);
                Check.same(method.getName() + " throws IllegalStateException",
                    cells[4].isEmpty() ? 0 : 1, thrown.contains(IllegalStateException.class) ? 1 : 0);
            }
        }
    }

    private static String rowOf(String readme, String start) {
        for (String line : readme.split("\n")) {
            if (line.startsWith(start)) {
                return line;
            }
        }
        return "";
    }

    private static void tellsNumbers(String readme) {
        String table = readme.split("### The numbers of a node")[1].split("\n## ")[0];
        for (String number : NUMBERS) {
            Check.isTrue("README.md tells " + number, table.matches("(?s).*\n\\| ([A-Z]+, )?" + number + "(, [A-Z]+)? \\|.*"));
        }
    }
}
