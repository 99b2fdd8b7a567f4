import java.io.IOException;
import java.lang.reflect.Method;
import java.lang.reflect.Modifier;
import java.nio.file.Files;
import java.nio.file.Path;
import java.util.regex.Matcher;
import java.util.regex.Pattern;

/** README.md holds: its examples answer what stands behind them, and it leaves out no call. */
public final class ReadmeTest {
    private static final Pattern EXAMPLE = Pattern.compile("(?m)^x\\.(\\w+)\\((.*)\\); +// (-?\\d+):.*$");
    private static final int EXAMPLES = 27;

    public static void main(String[] args) throws IOException, ReflectiveOperationException {
        Check check = new Check("ReadmeTest");
        String text = Files.readString(Path.of("README.md"));
        CrowdedLanes x = new CrowdedLanes();
        Matcher m = EXAMPLE.matcher(text);
        int examples = 0;
        while (m.find()) {
            examples++;
            check.due(m.group(1) + "(" + m.group(2) + ")", answer(x, m.group(1), m.group(2)), Long.parseLong(m.group(3)));
        }
        // an example that lost its form would else no longer be asked
        check.due("lines that are examples", examples, text.split("\nx\\.", -1).length - 1);
        check.due("examples", examples, EXAMPLES);
        for (Method call : CrowdedLanes.class.getDeclaredMethods()) {
            if (Modifier.isPublic(call.getModifiers())) {
                check.holds("the table has " + call.getName(), inTable(text, call.getName()));
            }
        }
        check.close();
    }

    private static boolean inTable(String text, String call) throws IOException {
        Matcher promise = Pattern.compile("(?m)^## Promise (\\d+): " + call + "$")
                .matcher(Files.readString(Path.of("../shared/DOC.md")));
        return promise.find() && Pattern.compile("(?m)^\\|.*`" + call + "` " + promise.group(1) + "\\b").matcher(text).find();
    }

    private static long answer(CrowdedLanes x, String name, String given) throws ReflectiveOperationException {
        String[] numbers = given.isEmpty() ? new String[0] : given.split(", ");
        for (Method call : CrowdedLanes.class.getDeclaredMethods()) {
            if (call.getName().equals(name)) {
                Object[] row = new Object[numbers.length];
                for (int i = 0; i < row.length; i++) {
                    row[i] = number(numbers[i]);
                }
                return ((Number) call.invoke(x, row)).longValue();
            }
        }
        throw new IllegalStateException("README.md has a call that is not there: " + name);
    }

    private static Object number(String written) {
        if (written.endsWith("L")) {
            return Long.decode(written.substring(0, written.length() - 1));
        }
        return Integer.decode(written);
    }
}
