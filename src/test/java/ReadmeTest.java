import java.lang.reflect.Method;
import java.nio.file.Files;
import java.nio.file.Path;
import java.util.regex.Matcher;
import java.util.regex.Pattern;

/** The calls that README.md shows, made in their order: each answers what stands behind it there. */
public final class ReadmeTest {
    private static final Check CHECK = new Check();
    private static final Pattern NEW = Pattern.compile("SumsNightwatch x = new SumsNightwatch\\(\\);");
    private static final Pattern CALL = Pattern.compile("x\\.(\\w+)\\(([^)]*)\\);(\\s+// (-?\\w+).*)?");

    public static void main(String[] args) throws Exception {
        CHECK.part("README.md");
        SumsNightwatch x = null;
        int compared = 0;
        boolean inside = false;
        // .ci/run starts in the project's folder.
        for (String line : Files.readAllLines(Path.of("README.md"))) {
            Matcher call = CALL.matcher(line);
            if (line.startsWith("```")) {
                inside = line.equals("```java");
            } else if (inside && NEW.matcher(line).matches()) {
                x = new SumsNightwatch();
            } else if (inside && call.matches()) {
                long got = answer(x, call.group(1), call.group(2));
                if (call.group(4) != null) {
                    CHECK.same(line, got, due(call.group(4)));
                    compared++;
                }
            } else if (inside) {
                CHECK.same("a line that is a call or tells a text: " + line, line.startsWith("// "), true);
            }
        }
        CHECK.same("there are calls with their answers", compared > 0, true);
        CHECK.end("ReadmeTest");
    }

    private static long due(String word) {
        return word.equals("true") ? 1 : word.equals("false") ? 0 : Long.parseLong(word);
    }

    private static long answer(SumsNightwatch x, String name, String arguments) throws Exception {
        String[] words = arguments.isEmpty() ? new String[0] : arguments.split(", ");
        for (Method m : SumsNightwatch.class.getMethods()) {
            if (m.getName().equals(name) && m.getParameterCount() == words.length) {
                Object[] given = new Object[words.length];
                for (int i = 0; i < words.length; i++) {
                    boolean isLong = m.getParameterTypes()[i] == long.class;
                    given[i] = isLong ? (Object) Long.decode(words[i]) : (Object) Integer.decode(words[i]);
                }
                Object got = m.invoke(x, given);
                return got instanceof Boolean ? ((Boolean) got ? 1 : 0) : ((Number) got).longValue();
            }
        }
        throw new IllegalArgumentException("no call " + name + " of " + words.length);
    }
}
