import java.lang.reflect.Method;
import java.lang.reflect.Modifier;
import java.nio.file.Files;
import java.nio.file.Path;
import java.util.regex.Matcher;
import java.util.regex.Pattern;

/** What README.md shows holds: the answers of its example, its text, its numbers, and every call is told. */
public final class ReadmeTest {
    private static final Checks CHECKS = new Checks("ReadmeTest");

    public static void main(String[] args) throws Exception {
        String page = Files.readString(Path.of("README.md"));
        EdgeMoves x = exampleHolds(page);
        textHolds(page, x);
        numbersHold(page);
        callsAreTold(page);
        CHECKS.end();
    }

    /** Makes the calls of the example; answers the object behind them. */
    private static EdgeMoves exampleHolds(String page) {
        EdgeMoves x = new EdgeMoves();
        Matcher lines = Pattern.compile("(?m)^x\\.(\\w+)\\(([^)]*)\\);(?: +// (-?\\d+))?").matcher(page);
        int calls = 0;
        while (lines.find()) {
            calls++;
            CHECKS.holds("an answer behind " + lines.group(), lines.group(3) != null);
            if (lines.group(3) != null) {
                int[] numbers = numbersOf(lines.group(2));
                CHECKS.due(lines.group(), Calls.make(x, lines.group(1), numbers), Long.parseLong(lines.group(3)));
            }
        }
        CHECKS.holds("calls in the example", calls > 10);
        return x;
    }

    private static int[] numbersOf(String told) {
        return Pattern.compile("-?\\d+").matcher(told).results().mapToInt(found -> Integer.parseInt(found.group())).toArray();
    }

    /** The text is to tell the same graph as the example's calls. */
    private static void textHolds(String page, EdgeMoves told) {
        Matcher text = Pattern.compile("(?m)^    (b.*;)$").matcher(page);
        CHECKS.holds("a text", text.find());
        EdgeMoves x = new EdgeMoves();
        CHECKS.due("read() of the text", Checks.readText(x, text.group(1)), 3);
        x.clear();
        x.machine(told.told(6));
        x.edge(0, 2, 5);
        CHECKS.due("digest() of the text", x.digest(), told.digest());
    }

    private static void numbersHold(String page) {
        CHECKS.holds("NONE", page.contains("`NONE` " + EdgeMoves.NONE));
        CHECKS.holds("BAD", page.contains("`BAD` " + EdgeMoves.BAD));
        CHECKS.holds("NO", page.contains("`NO` " + EdgeMoves.NO));
        CHECKS.holds("FULL", page.contains("`FULL` " + EdgeMoves.FULL));
    }

    private static void callsAreTold(String page) {
        for (Method method : EdgeMoves.class.getDeclaredMethods()) {
            if (Modifier.isPublic(method.getModifiers())) {
                Matcher row = Pattern.compile("(?m)^\\|.*`" + method.getName() + "\\(([^)]*)\\)`.*\\|$").matcher(page);
                boolean isTold = row.find();
                CHECKS.holds(method.getName() + " is told", isTold);
                int count = !isTold || row.group(1).isEmpty() ? 0 : row.group(1).split(",").length;
                CHECKS.due("arguments of " + method.getName(), count, method.getParameterCount());
            }
        }
    }
}
