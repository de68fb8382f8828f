import java.lang.reflect.Method;
import java.nio.file.Files;
import java.nio.file.Path;
import java.util.TreeSet;
import java.util.Set;
import java.util.regex.Matcher;
import java.util.regex.Pattern;

/** Every line of the README's example answers as the README says. */
public final class ReadmeTest extends Checks {
    private static final Pattern WRITE = Pattern.compile("write\\(x, (\\d+), \"([^\"]*)\"\\);.*");
    private static final Pattern CALL = Pattern.compile("x\\.(\\w+)\\(([^)]*)\\);.*");
    private static final Pattern ANSWERED = Pattern.compile(".*; +// (-?\\d+): .*");

    private static final Set<String> called = new TreeSet<>();

    private static long answer(SunRopes x, String name, String told) throws Exception {
        String[] numbers = told.isEmpty() ? new String[0] : told.split(", ");
        Object[] arguments = new Object[numbers.length];
        Class<?>[] types = new Class<?>[numbers.length];
        for (int k = 0; k < numbers.length; k++) {
            arguments[k] = Integer.parseInt(numbers[k]);
            types[k] = int.class;
        }
        Method call = SunRopes.class.getMethod(name, types);
        called.add(name);
        return ((Number) call.invoke(x, arguments)).longValue();
    }

    private static void line(SunRopes x, String line) throws Exception {
        Matcher written = WRITE.matcher(line);
        Matcher call = CALL.matcher(line);
        if (written.matches()) {
            write(x, Integer.parseInt(written.group(1)), written.group(2));
        } else if (call.matches()) {
            Matcher answered = ANSWERED.matcher(line);
            due(line + " says its answer", answered.matches() ? 1 : 0, 1);
            long got = answer(x, call.group(1), call.group(2));
            if (answered.matches()) due(line, got, Long.parseLong(answered.group(1)));
        } else {
            due("'" + line + "' is a call", line.isEmpty() ? 1 : 0, 1);
        }
    }

    private static void example(String readme) throws Exception {
        String start = "SunRopes x = new SunRopes();\n";
        int from = readme.indexOf(start), to = readme.indexOf("```", Math.max(from, 0));
        due("there is an example", from >= 0 && to > from ? 1 : 0, 1);
        if (from < 0 || to <= from) return;
        SunRopes x = new SunRopes();
        for (String line : readme.substring(from + start.length(), to).split("\n")) line(x, line);
        due("the example uses most calls, not " + called.size(), called.size() >= 25 ? 1 : 0, 1);
    }

    /** The path of the source is told: the README is four levels above it. */
    public static void main(String[] args) throws Exception {
        sentence = "README";
        due("the source's path is told", args.length, 1);
        if (args.length == 1) {
            Path source = Path.of(args[0]).toAbsolutePath().normalize();
            example(Files.readString(source.resolve("../../../../README.md").normalize()));
        }
        tellEnd();
    }
}
