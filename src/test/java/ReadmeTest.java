import java.lang.reflect.Method;
import java.nio.file.Files;
import java.nio.file.Path;
import java.util.Set;
import java.util.TreeSet;
import java.util.regex.Matcher;
import java.util.regex.Pattern;

/** The example in README.md, line by line: its calls are those of the class, and so are the answers behind them. */
public final class ReadmeTest extends Checks {
    private static final Pattern BLOCK = Pattern.compile("(?s)```java\n(.*?)```");
    private static final Pattern TYPED = Pattern.compile(
            "for \\(char b : \"([^\"]*)\"\\.toCharArray\\(\\)\\) x\\.type\\((\\d), b\\); *//.*");
    private static final Pattern ASKED = Pattern.compile("x\\.(\\w+)\\(([^)]*)\\); *// (-?\\d+)\\b.*");

    private static final Set<String> shownCalls = new TreeSet<>();

    public static void main(String[] args) throws Exception {
        String readme = Files.readString(Path.of("README.md"));
        about("README.md");
        example(readme);
        is(readme.contains("\n    bash .ci/run\n") ? 1 : 0, 1);
        for (Method m : ShadowTheatre.class.getMethods()) {
            boolean own = m.getDeclaringClass() == ShadowTheatre.class;
            if (own && !shownCalls.contains(m.getName())) {
                about(m.getName() + " is shown nowhere");
                is(0, 1);
            }
        }
        end();
    }

    private static void example(String readme) throws Exception {
        Matcher block = BLOCK.matcher(readme);
        about("README.md has an example");
        is(block.find() ? 1 : 0, 1);
        ShadowTheatre x = null;
        for (String line : block.group(1).split("\n")) {
            about(line);
            Matcher typed = TYPED.matcher(line);
            Matcher asked = ASKED.matcher(line);
            if (line.equals("ShadowTheatre x = new ShadowTheatre();")) {
                x = new ShadowTheatre();
            } else if (typed.matches()) {
                more(x, Integer.parseInt(typed.group(2)), typed.group(1));
                shownCalls.add("type");
            } else if (asked.matches()) {
                is(ask(x, asked.group(1), asked.group(2)), Long.parseLong(asked.group(3)));
            } else {
                is(line.isBlank() ? 0 : 1, 0);
            }
        }
    }

    private static long ask(ShadowTheatre x, String call, String arguments) throws Exception {
        String numbers = arguments.replace("ShadowTheatre.NONE", "" + NONE);
        String[] told = numbers.isBlank() ? new String[0] : numbers.split(", ");
        Class<?>[] types = new Class<?>[told.length];
        Object[] values = new Object[told.length];
        for (int i = 0; i < told.length; i++) {
            types[i] = int.class;
            values[i] = Integer.parseInt(told[i]);
        }
        shownCalls.add(call);
        return ((Number) ShadowTheatre.class.getMethod(call, types).invoke(x, values)).longValue();
    }
}
