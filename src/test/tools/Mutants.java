import java.io.IOException;
import java.io.OutputStream;
import java.nio.file.Files;
import java.nio.file.Path;
import java.util.ArrayList;
import java.util.Arrays;
import java.util.Comparator;
import java.util.List;
import java.util.concurrent.ExecutorService;
import java.util.concurrent.Executors;
import java.util.concurrent.Future;
import java.util.concurrent.TimeUnit;
import java.util.regex.Matcher;
import java.util.regex.Pattern;
import java.util.stream.Stream;
import javax.tools.ToolProvider;

/**
 * Breaks the program in one small way after another, and tells which breaks no test has seen.
 * Arguments: the program, a directory with the tests' classes (without the program's), the tests' names.
 */
public final class Mutants {
    /** What stands in the program, and what is put in its stead. */
    private static final String[][] SWAPS = {
        {" < ", " <= ", " > "}, {" <= ", " < "}, {" > ", " >= ", " < "}, {" >= ", " > "},
        {" == ", " != "}, {" != ", " == "}, {" && ", " || "}, {" || ", " && "},
        {" + ", " - "}, {" - ", " + "}, {" | ", " & "}, {" & ", " | "}, {" ^ ", " | "}, {"& ~", "& "}, {"++", "--"},
        {"Math.min", "Math.max"}, {"Math.max", "Math.min"},
        {"return UNKNOWN", "return OUTSIDE", "return NOT"}, {"return OUTSIDE", "return UNKNOWN", "return NOT"},
        {"return NOT", "return UNKNOWN", "return FULL"}, {"return FULL", "return NOT"},
    };
    private static final Pattern COMMENT = Pattern.compile("(?s)/\\*.*?\\*/|//[^\n]*");
    private static final Pattern NUMBER = Pattern.compile("(?<![\\w.])\\d{1,8}(?!\\w)");
    private static final Pattern STATEMENT =
            Pattern.compile("(?m)^ +((?!return|int |private|boolean )[a-zA-Z][\\w.\\[\\]* +]*(\\([^;{}]*\\)|\\+\\+|--| [-+|&]?= [^;]*);)");

    private record Break(int start, int end, String instead) {
    }

    private final String source;
    private final String tests;
    private final List<String> names;
    private final List<Break> breaks = new ArrayList<>();

    private Mutants(String source, String tests, List<String> names) {
        this.source = source;
        this.tests = tests;
        this.names = names;
    }

    public static void main(String[] args) throws Exception {
        List<String> names = Arrays.asList(args).subList(2, args.length);
        Mutants mutants = new Mutants(Files.readString(Path.of(args[0])), args[1], names);
        mutants.findBreaks();
        mutants.runAll();
    }

    private void findBreaks() {
        String code = COMMENT.matcher(source).replaceAll(comment -> comment.group().replaceAll("[^\n]", " "));
        for (String[] swap : SWAPS) {
            for (int at = code.indexOf(swap[0]); at >= 0; at = code.indexOf(swap[0], at + 1)) {
                for (int i = 1; i < swap.length; i++) {
                    breaks.add(new Break(at, at + swap[0].length(), swap[i]));
                }
            }
        }
        for (Matcher number = NUMBER.matcher(code); number.find();) {
            int value = Integer.parseInt(number.group());
            breaks.add(new Break(number.start(), number.end(), String.valueOf(value + 1)));
            if (value > 0) {
                breaks.add(new Break(number.start(), number.end(), String.valueOf(value - 1)));
            }
        }
        for (Matcher statement = STATEMENT.matcher(code); statement.find();) {
            breaks.add(new Break(statement.start(1), statement.end(1), ";"));
        }
    }

    private void runAll() throws Exception {
        ExecutorService pool = Executors.newFixedThreadPool(Runtime.getRuntime().availableProcessors());
        List<Future<Boolean>> seen = new ArrayList<>();
        for (Break one : breaks) {
            seen.add(pool.submit(() -> isSeen(one)));
        }
        int unseen = 0;
        for (int i = 0; i < breaks.size(); i++) {
            if (!seen.get(i).get()) {
                unseen++;
                tell(breaks.get(i));
            }
        }
        pool.shutdown();
        System.out.println(breaks.size() + " breaks, " + unseen + " that no test has seen");
    }

    private void tell(Break one) {
        String ahead = source.substring(0, one.start);
        int line = (int) ahead.chars().filter(sign -> sign == '\n').count();
        System.out.println((line + 1) + ": " + source.split("\n")[line].trim()
                + "   [" + source.substring(one.start, one.end) + " -> " + one.instead + "]");
    }

    /** One that does not compile, or does not end, counts as seen. */
    private boolean isSeen(Break one) throws Exception {
        Path place = Files.createTempDirectory("mutant");
        try {
            Path file = place.resolve("ToneSets.java");
            Files.writeString(file, source.substring(0, one.start) + one.instead + source.substring(one.end));
            OutputStream nowhere = OutputStream.nullOutputStream();
            if (ToolProvider.getSystemJavaCompiler().run(null, nowhere, nowhere, "-d", place.toString(), file.toString()) != 0) {
                return true;
            }
            for (String name : names) {
                if (fails(place, name)) {
                    return true;
                }
            }
            return false;
        } finally {
            delete(place);
        }
    }

    private boolean fails(Path place, String name) throws Exception {
        ProcessBuilder java = new ProcessBuilder("java", "-cp", place + ":" + tests, name);
        Process run = java.redirectErrorStream(true).redirectOutput(ProcessBuilder.Redirect.DISCARD).start();
        if (!run.waitFor(60, TimeUnit.SECONDS)) {
            run.destroyForcibly();
            return true;
        }
        return run.exitValue() != 0;
    }

    private static void delete(Path place) throws IOException {
        try (Stream<Path> files = Files.walk(place)) {
            for (Path file : files.sorted(Comparator.reverseOrder()).toList()) {
                Files.delete(file);
            }
        }
    }
}
