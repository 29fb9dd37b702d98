import java.io.IOException;
import java.lang.reflect.Method;
import java.lang.reflect.Modifier;
import java.nio.file.Files;
import java.nio.file.Path;
import java.util.ArrayDeque;
import java.util.Deque;
import java.util.List;

/** What README.md, in the folder that the test is run from, says of the class is so. */
public final class TwoTimesReadme {
    private static final Deque<String> EXAMPLE = new ArrayDeque<>();
    private static int wrong = 0;

    public static void main(String[] args) throws IOException {
        List<String> readme = Files.readAllLines(Path.of("README.md"));
        for (String line : readme) {
            if (line.startsWith("book.")) {
                EXAMPLE.add(line);
            }
        }
        int rows = EXAMPLE.size();
        example();
        due("no row of the example is left, but " + EXAMPLE, EXAMPLE.isEmpty());
        everyCallHasARow(readme);
        System.out.println(rows + " rows of the example, " + wrong + " faults");
        if (wrong != 0) {
            System.exit(1);
        }
    }

    private static void example() {
        TwoTimes book = new TwoTimes();
        int days = 10 + 128 * 20;
        row("book.say(0, days, 7);", book.say(0, days, 7) + "");
        row("book.raise(0, 15 + 128 * 100, 3);", book.raise(0, 15 + 128 * 100, 3) + "");
        row("book.at(2, 0, 16);", book.at(2, 0, 16) + "");
        row("book.at(1, 0, 16);", book.at(1, 0, 16) + "");
        row("book.pieces(2, 0);", book.pieces(2, 0) + "");
        row("book.pieceFrom(2, 0, 1);", book.pieceFrom(2, 0, 1) + "");
        row("book.pieceTo(2, 0, 1);", book.pieceTo(2, 0, 1) + "");
        row("book.changed(1, 2, 0);", book.changed(1, 2, 0) + "");
        row("book.since(0, 12);", book.since(0, 12) + "");
        row("book.copy(0, 3);", book.copy(0, 3) + "");
        row("book.sumAt(4, 16);", book.sumAt(4, 16) + "");
        row("book.unsay(0, 16 + 128 * 17);", book.unsay(0, 16 + 128 * 17) + "");
        row("book.at(5, 0, 16);", book.at(5, 0, 16) == TwoTimes.NOTHING ? "NOTHING" : "a value");
        row("book.known(5, 0, 16);", book.known(5, 0, 16) + "");
        row("book.say(6, days, 7);", book.say(6, days, 7) == TwoTimes.BAD_THING ? "BAD_THING" : "another");
    }

    /** The next row of the example is this call, and its comment begins with this answer. */
    private static void row(String call, String answer) {
        String line = EXAMPLE.isEmpty() ? "no row" : EXAMPLE.remove();
        String due = call.replaceAll("\\W", "\\\\$0") + " +// " + answer + "\\b.*";
        due("'" + line + "' is " + call + " // " + answer, line.matches(due));
    }

    private static void everyCallHasARow(List<String> readme) {
        for (Method method : TwoTimes.class.getDeclaredMethods()) {
            if (Modifier.isPublic(method.getModifiers())) {
                String start = "| `" + method.getName() + "(";
                long rows = readme.stream().filter(line -> line.startsWith(start)).count();
                due("one row of the table for " + method.getName() + ", seen are " + rows, rows == 1);
            }
        }
    }

    private static void due(String what, boolean holds) {
        if (!holds) {
            wrong++;
            System.out.println("not so: " + what);
        }
    }
}
