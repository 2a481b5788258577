import java.io.IOException;
import java.lang.reflect.InvocationTargetException;
import java.lang.reflect.Method;
import java.lang.reflect.Modifier;
import java.nio.file.Files;
import java.nio.file.Path;
import java.util.HashMap;
import java.util.Map;
import java.util.regex.Matcher;
import java.util.regex.Pattern;

/** The lines of README.md's example are run, and the answers compared with the numbers that stand behind them. */
public final class ReadmeTest {
    private static final Pattern CALL = Pattern.compile("(?:int (\\w+) = )?viewer\\.(\\w+)\\((.*)\\); +// ([-\\w]+).*");
    private static final Pattern TEXT = Pattern.compile("feed\\(viewer, \"(.*)\"\\);");
    private static final Map<String, Integer> CONSTANTS = Map.of("NONE", Check.NONE, "FULL", Check.FULL,
            "RANGE", Check.RANGE, "KIND", Check.KIND, "OUTSIDE", Check.OUTSIDE, "MANY", Check.MANY, "STATE", Check.STATE);

    private final OverlayViewer viewer = new OverlayViewer();
    private final Map<String, Long> named = new HashMap<>();

    public static void main(String[] args) throws IOException, IllegalAccessException, InvocationTargetException {
        String readme = Files.readString(Path.of("README.md"));
        String begin = "OverlayViewer viewer = new OverlayViewer();\n";
        int from = readme.indexOf(begin);
        int to = readme.indexOf("```", from);
        Check.due("README.md has an example", from >= 0 && to > from ? 1 : 0, 1);
        ReadmeTest test = new ReadmeTest();
        for (String line : readme.substring(from + begin.length(), to).split("\n")) {
            test.run(line);
        }
        everyCallIsTold(readme);
        Check.end();
    }

    private void run(String line) throws IllegalAccessException, InvocationTargetException {
        Matcher text = TEXT.matcher(line);
        Matcher call = CALL.matcher(line);
        if (text.matches()) {
            Check.feed(viewer, text.group(1));
        } else if (call.matches()) {
            long got = answer(call.group(2), call.group(3).isEmpty() ? new String[0] : call.group(3).split(", "));
            Check.due(line, got, number(call.group(4)));
            named.put(call.group(1), got);
        } else {
            Check.due("a line that is no call: " + line, line.isEmpty() ? 1 : 0, 1);
        }
    }

    private long answer(String name, String[] words) throws IllegalAccessException, InvocationTargetException {
        for (Method method : OverlayViewer.class.getMethods()) {
            if (method.getName().equals(name) && method.getParameterCount() == words.length) {
                Object[] arguments = new Object[words.length];
                for (int i = 0; i < words.length; i++) {
                    arguments[i] = argument(method.getParameterTypes()[i], words[i]);
                }
                return ((Number) method.invoke(viewer, arguments)).longValue();
            }
        }
        Check.due("there is a call " + name + " of " + words.length, 0, 1);
        return 0;
    }

    private Object argument(Class<?> type, String word) {
        if (type == boolean.class) {
            return word.equals("true");
        }
        long number = number(word);
        if (type == int.class) {
            return (int) number;
        }
        return number;
    }

    private long number(String word) {
        if (CONSTANTS.containsKey(word)) {
            return CONSTANTS.get(word);
        }
        return named.containsKey(word) ? named.get(word) : Long.decode(word.replace("L", ""));
    }

    private static void everyCallIsTold(String readme) {
        for (Method method : OverlayViewer.class.getDeclaredMethods()) {
            if (Modifier.isPublic(method.getModifiers())) {
                boolean told = readme.contains("`" + method.getName() + "`");
                Check.due("README.md tells of " + method.getName(), told ? 1 : 0, 1);
            }
        }
    }
}
