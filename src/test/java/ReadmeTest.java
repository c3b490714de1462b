import java.lang.reflect.Method;
import java.nio.file.Files;
import java.nio.file.Path;
import java.util.regex.Matcher;
import java.util.regex.Pattern;

/** The example in README.md: each of its calls that has an answer beside it is made on the ring that it begins with. */
final class ReadmeTest {
    private static final Pattern CALL_AND_ANSWER =
            Pattern.compile("^order\\.(\\w+)\\(([\\w, -]*)\\); *// (-?\\d+)", Pattern.MULTILINE);

    private ReadmeTest() {
    }

    public static void main(String[] args) throws Exception {
        GossipOrder order = Runs.ring(16, Runs.tens());
        Matcher line = CALL_AND_ANSWER.matcher(Files.readString(Path.of("README.md")));
        int lines = 0;
        while (line.find()) {
            lines++;
            String call = line.group(1) + "(" + line.group(2) + ")";
            Check.due("README: " + call, answer(order, line.group(1), line.group(2)), Integer.parseInt(line.group(3)));
        }
        Check.holds("README.md has an example with answers", lines > 0);
        Check.end();
    }

    private static int answer(GossipOrder order, String name, String list) throws Exception {
        String[] words = list.isEmpty() ? new String[0] : list.split(", ");
        for (Method method : GossipOrder.class.getMethods()) {
            if (method.getName().equals(name) && method.getParameterCount() == words.length) {
                return (int) method.invoke(order, arguments(method.getParameterTypes(), words));
            }
        }
        throw new IllegalStateException("no method " + name + "(" + list + ")");
    }

    private static Object[] arguments(Class<?>[] types, String[] words) {
        Object[] values = new Object[words.length];
        for (int k = 0; k < words.length; k++) {
            if (types[k] == boolean.class) {
                values[k] = Boolean.valueOf(words[k]);
            } else {
                values[k] = Integer.valueOf(words[k]);
            }
        }
        return values;
    }
}
