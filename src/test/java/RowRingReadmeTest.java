import java.lang.reflect.Method;
import java.lang.reflect.Modifier;
import java.nio.file.Files;
import java.nio.file.Path;
import java.util.Arrays;
import java.util.regex.Matcher;
import java.util.regex.Pattern;

/** What README.md tells of a run is so, and its table names every call; it is run in the project's folder. */
public final class RowRingReadmeTest extends RowRingChecks {
    private static final Path README = Path.of("README.md");
    private static final Pattern TOLD = Pattern.compile("tell\\(r, \"(.*)\"\\);");
    private static final Pattern CALL = Pattern.compile("r\\.(\\w+)\\((.*)\\); +// (-?\\d+): .*");
    private static final String FIRST_LINE = "RowRing r = new RowRing();";

    private RowRingReadmeTest() {
    }

    public static void main(String[] args) throws Exception {
        String text = Files.readString(README);
        run(text);
        table(text);
        finish();
    }

    private static void run(String text) throws Exception {
        int start = text.indexOf(FIRST_LINE);
        if (start < 0) {
            wrong("README.md tells no run");
            return;
        }
        RowRing r = new RowRing();
        String lines = text.substring(start + FIRST_LINE.length(), text.indexOf("```", start)).strip();
        for (String line : lines.split("\n")) {
            runLine(r, line);
        }
    }

    private static void runLine(RowRing r, String line) throws Exception {
        Matcher told = TOLD.matcher(line);
        Matcher call = CALL.matcher(line);
        if (told.matches()) {
            tell(r, told.group(1));
        } else if (call.matches()) {
            due("README.md: " + line, answer(r, call.group(1), call.group(2)), Integer.parseInt(call.group(3)));
        } else {
            wrong("README.md: neither a text nor a call with its answer: " + line);
        }
    }

    private static int answer(RowRing r, String name, String list) throws Exception {
        Object[] numbers = list.isEmpty() ? new Object[0]
            : Arrays.stream(list.split(", ")).map(Integer::valueOf).toArray();
        Class<?>[] kinds = new Class<?>[numbers.length];
        Arrays.fill(kinds, int.class);
        return (int) RowRing.class.getMethod(name, kinds).invoke(r, numbers);
    }

    private static void table(String text) {
        String rows = text.substring(text.indexOf("### Calls"), text.indexOf("## Tests"));
        for (Method m : RowRing.class.getDeclaredMethods()) {
            if (Modifier.isPublic(m.getModifiers())) {
                due("README.md: times that its table names " + m.getName(),
                    rows.split("`" + m.getName() + "`", -1).length - 1, 1);
            }
        }
    }
}
