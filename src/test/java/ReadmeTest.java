import java.io.IOException;
import java.lang.reflect.Method;
import java.lang.reflect.Modifier;
import java.nio.file.Files;
import java.nio.file.Path;
import java.util.Arrays;
import java.util.regex.Matcher;
import java.util.regex.Pattern;

/** The calls in README.md answer what stands beside them, and its table names each call once. Run from the project's folder. */
public final class ReadmeTest {
    private static final Pattern CALL = Pattern.compile("candle\\.(\\w+)\\(([-\\d, ]*)\\); +// (-?\\d+).*");
    private static final Pattern TEXT = Pattern.compile("for .*\"(.*)\"\\.toCharArray.*");

    public static void main(String[] args) throws IOException, ReflectiveOperationException {
        Due due = new Due();
        String readme = Files.readString(Path.of("README.md"));
        examples(due, readme.split("\n"));
        for (Method m : CandleIsADebt.class.getDeclaredMethods()) {
            if ((m.getModifiers() & Modifier.PUBLIC) == 0) continue;
            long rows = Pattern.compile("(?m)^\\|.*`" + m.getName() + "`").matcher(readme).results().count();
            due.is("rows that name " + m.getName(), rows, 1);
        }
        due.end();
    }

    private static void examples(Due due, String[] lines) throws ReflectiveOperationException {
        CandleIsADebt candle = null;
        int asked = 0;
        for (String line : lines) {
            Matcher call = CALL.matcher(line);
            Matcher text = TEXT.matcher(line);
            if (line.contains("candle = new")) candle = new CandleIsADebt();
            else if (text.matches()) for (char letter : text.group(1).toCharArray()) candle.feed(letter);
            else if (call.matches()) {
                due.is(call.group(), answer(candle, call.group(1), call.group(2)), Long.parseLong(call.group(3)));
                asked++;
            }
        }
        due.is("calls in the examples", asked, 17);
    }

    private static long answer(CandleIsADebt candle, String name, String list) throws ReflectiveOperationException {
        int[] args = list.isEmpty() ? new int[0] : Arrays.stream(list.split(", ")).mapToInt(Integer::parseInt).toArray();
        Class<?>[] types = new Class<?>[args.length];
        Arrays.fill(types, int.class);
        Method method = CandleIsADebt.class.getMethod(name, types);
        return ((Number) method.invoke(candle, Arrays.stream(args).boxed().toArray())).longValue();
    }
}
