import java.lang.reflect.Method;
import java.lang.reflect.Modifier;
import java.nio.file.Files;
import java.nio.file.Path;
import java.util.HashMap;
import java.util.Map;
import java.util.regex.Matcher;
import java.util.regex.Pattern;

/** README.md says how to use the class: its example answers what it says there, and no call is left out. */
public final class ReadmeTest extends Checks {
    private static final Pattern CALL = Pattern.compile("(?:int (\\w+) = )?x\\.(\\w+)\\(([^)]*)\\); *// (-?\\d+): .*");
    private static final int LEAST_CALLS = 6;

    private final ToneSets x = new ToneSets();
    private final Map<String, Integer> names = new HashMap<>();

    public static void main(String[] args) throws Exception {
        Path root = Path.of(args[0]).toAbsolutePath().getParent().getParent().getParent().getParent();
        String readme = Files.readString(root.resolve("README.md"));
        says("README.md says how to use the class");
        new ReadmeTest().playExample(readme);
        nameEveryCall(readme);
        end("readme");
    }

    private void playExample(String readme) throws Exception {
        int calls = 0;
        for (String line : readme.split("\n")) {
            Matcher call = CALL.matcher(line.trim());
            if (call.matches()) {
                calls++;
                int got = answer(call.group(2), call.group(3));
                due(line.trim(), got, Integer.parseInt(call.group(4)));
                names.put(String.valueOf(call.group(1)), got);
            }
        }
        due("enough calls are found in the example", calls < LEAST_CALLS ? 0 : 1, 1);
    }

    private int answer(String name, String arguments) throws Exception {
        String[] words = arguments.isEmpty() ? new String[0] : arguments.split(", *");
        Object[] values = new Object[words.length];
        Class<?>[] types = new Class<?>[words.length];
        for (int i = 0; i < words.length; i++) {
            values[i] = names.containsKey(words[i]) ? names.get(words[i]) : Integer.valueOf(words[i]);
            types[i] = int.class;
        }
        return (Integer) ToneSets.class.getMethod(name, types).invoke(x, values);
    }

    private static void nameEveryCall(String readme) {
        for (Method method : ToneSets.class.getDeclaredMethods()) {
            if (Modifier.isPublic(method.getModifiers())) {
                due(method.getName() + " is told", readme.contains("`" + method.getName() + "(") ? 1 : 0, 1);
            }
        }
    }
}
