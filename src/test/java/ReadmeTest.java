import java.io.IOException;
import java.lang.reflect.Method;
import java.nio.file.Files;
import java.nio.file.Path;
import java.util.Arrays;
import java.util.regex.Matcher;
import java.util.regex.Pattern;

/** The calls that README.md shows answer what stands behind them there. */
final class ReadmeTest {
    private static final Check CHECK = new Check("ReadmeTest");
    private static final Pattern CALL = Pattern.compile("x\\.(\\w+)\\(([-0-9, ]*)\\); +// (-?[0-9]+)(:.*)?");
    private static final Pattern WRITE = Pattern.compile("write\\(x, ([0-3]), \"(.*)\"\\);");

    private static LampSwitches x = new LampSwitches();
    private static int calls;

    public static void main(String[] args) throws IOException, ReflectiveOperationException {
        for (String line : Files.readAllLines(Path.of("README.md"))) {
            Matcher call = CALL.matcher(line);
            Matcher write = WRITE.matcher(line);
            if (call.matches()) {
                CHECK.due(line, answer(call.group(1), call.group(2)), Long.parseLong(call.group(3)));
                calls++;
            } else if (write.matches()) {
                Check.write(x, Integer.parseInt(write.group(1)), Check.BYTES, write.group(2).chars().toArray());
            } else if (line.endsWith("x = new LampSwitches();")) {
                x = new LampSwitches();
            } else {
                CHECK.due("a line that is not run: " + line, line.startsWith("x.") ? 1 : 0, 0);
            }
        }
        CHECK.due("there are calls", calls > 40 ? 1 : 0, 1);
        CHECK.end();
    }

    private static long answer(String name, String numbers) throws ReflectiveOperationException {
        Object[] given = numbers.isEmpty() ? new Object[0]
            : Arrays.stream(numbers.split(", ")).map(Integer::valueOf).toArray();
        Method method = Arrays.stream(LampSwitches.class.getMethods())
            .filter(one -> one.getName().equals(name)).findFirst().orElseThrow();
        return ((Number) method.invoke(x, given)).longValue();
    }
}
