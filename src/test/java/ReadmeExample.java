import java.lang.reflect.Method;
import java.nio.file.Files;
import java.nio.file.Path;
import java.util.regex.Matcher;
import java.util.regex.Pattern;

/** The example of README.md is run as it stands there: a line's answer is what stands behind its last colon. */
public final class ReadmeExample {
    private static final Check C = new Check();
    private static final Pattern FEED = Pattern.compile("feed\\(x, \"([^\"]*)\"\\);");
    private static final Pattern CALL = Pattern.compile("x\\.(\\w+)\\(([-\\d, ]*)\\);\\s+// .*: (-?\\d+)");

    public static void main(String[] args) throws Exception {
        AlmostTax x = null;
        int calls = 0;
        for (String line : Files.readAllLines(Path.of("README.md"))) {
            Matcher feed = FEED.matcher(line);
            Matcher call = CALL.matcher(line);
            if (line.equals("AlmostTax x = new AlmostTax();")) {
                x = new AlmostTax();
            } else if (x != null && line.equals("```")) {
                break;
            } else if (x != null && feed.matches()) {
                Check.feed(x, feed.group(1));
            } else if (x != null) {
                C.due("README has an example's line: " + line, call.matches(), true);
                if (call.matches()) {
                    C.due(line, answer(x, call.group(1), call.group(2)), Long.parseLong(call.group(3)));
                    calls++;
                }
            }
        }
        C.due("the example has calls, " + calls, calls > 0, true);
        C.finish();
    }

    private static long answer(AlmostTax x, String name, String numbers) throws Exception {
        String[] each = numbers.isEmpty() ? new String[0] : numbers.split(", ");
        for (Method m : AlmostTax.class.getDeclaredMethods()) {
            if (m.getName().equals(name) && m.getParameterCount() == each.length) {
                Object[] given = new Object[each.length];
                for (int i = 0; i < each.length; i++) {
                    given[i] = m.getParameterTypes()[i] == long.class ? (Object) Long.valueOf(each[i]) : (Object) Integer.valueOf(each[i]);
                }
                Object got = m.invoke(x, given);
                return got instanceof Boolean ? ((Boolean) got ? 1 : 0) : ((Number) got).longValue();
            }
        }
        throw new IllegalStateException("no call " + name + " of " + each.length);
    }
}
