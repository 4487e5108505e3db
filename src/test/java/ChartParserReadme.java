import java.io.IOException;
import java.lang.reflect.Method;
import java.lang.reflect.Modifier;
import java.nio.file.Files;
import java.nio.file.Path;
import java.util.Arrays;
import java.util.Set;
import java.util.TreeSet;
import java.util.regex.Matcher;
import java.util.regex.Pattern;

/** Runs the example of README.md line by line: each call answers what the comment behind it begins with. */
public final class ChartParserReadme extends Trial {
    private static final Pattern LINE = Pattern.compile("x\\.((\\w+)\\(([^()]*)\\)); +// (true|false|-?\\d+)(:.*)?");

    private static Set<String> publicCalls() {
        Set<String> names = new TreeSet<>();
        for (Method m : ChartParser.class.getDeclaredMethods()) {
            if (Modifier.isPublic(m.getModifiers())) {
                names.add(m.getName());
            }
        }
        return names;
    }

    private static Object ask(ChartParser x, String name, String arguments) throws ReflectiveOperationException {
        Object[] numbers = arguments.isBlank() ? new Object[0]
            : Arrays.stream(arguments.split(",")).map(a -> Integer.valueOf(a.strip())).toArray();
        Class<?>[] types = new Class<?>[numbers.length];
        Arrays.fill(types, int.class);
        return ChartParser.class.getMethod(name, types).invoke(x, numbers);
    }

    public static void main(String[] args) throws IOException, ReflectiveOperationException {
        about("README.md");
        String[] fenced = Files.readString(Path.of("README.md")).split("```java\n|```\n");
        String[] lines = fenced[1].split("\n");
        ChartParser x = new ChartParser();
        Set<String> unused = publicCalls();
        require("the example does not begin with a new object", lines[0].equals("ChartParser x = new ChartParser();"));
        for (String line : Arrays.copyOfRange(lines, 1, lines.length)) {
            Matcher m = LINE.matcher(line);
            boolean told = m.matches();
            require("no call with its answer: " + line, told);
            if (told) {
                unused.remove(m.group(2));
                String got = String.valueOf(ask(x, m.group(2), m.group(3)));
                require(m.group(1) + " answers " + got + ", it says " + m.group(4), got.equals(m.group(4)));
            }
        }
        require("the example does not show " + unused, unused.isEmpty());
        finish();
    }
}
