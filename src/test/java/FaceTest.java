import java.lang.reflect.Constructor;
import java.lang.reflect.Field;
import java.lang.reflect.Method;
import java.lang.reflect.Modifier;
import java.nio.file.Files;
import java.nio.file.Path;
import java.util.Arrays;
import java.util.HashSet;
import java.util.Set;
import java.util.TreeSet;
import java.util.regex.Matcher;
import java.util.regex.Pattern;

/** The public face is the document's, and the program keeps to the rules of LANGUAGE.md that can be seen from outside. */
public final class FaceTest {
    private static int wrong = 0;

    private static void must(boolean so, String what) {
        if (!so) {
            wrong++;
            System.out.println("not so: " + what);
        }
    }

    public static void main(String[] args) throws Exception {
        face();
        insides();
        words(withoutComments(Files.readString(Path.of(args[0]))));
        System.out.println(wrong == 0 ? "face: all is as due" : "face: " + wrong + " faults");
        if (wrong != 0) {
            System.exit(1);
        }
    }

    private static void face() {
        Set<String> due = new TreeSet<>(Arrays.asList("told 1", "at 2", "interval 2", "forms 1", "formAt 2", "inside 2",
                "way 2", "nearest 3", "easy 3", "ring 1", "put 1", "change 3", "join 3", "swap 2", "take 1", "drift 1",
                "undo 1", "write 2", "tear 0", "seed 1", "keep 1", "goBack 1"));
        Set<String> found = new TreeSet<>();
        for (Method method : ToneSets.class.getDeclaredMethods()) {
            if (Modifier.isPrivate(method.getModifiers())) {
                continue;
            }
            found.add(method.getName() + " " + method.getParameterCount());
            must(method.getModifiers() == Modifier.PUBLIC, method + " is public and no more");
            must(method.getReturnType() == int.class, method + " answers an int");
            for (Class<?> type : method.getParameterTypes()) {
                must(type == int.class, method + " takes ints");
            }
        }
        must(found.equals(due), "the methods are " + due + ", found " + found);
        Constructor<?>[] constructors = ToneSets.class.getDeclaredConstructors();
        must(constructors.length == 1 && constructors[0].getParameterCount() == 0
                && constructors[0].getModifiers() == Modifier.PUBLIC, "one public constructor");
        must(ToneSets.class.getModifiers() == (Modifier.PUBLIC | Modifier.FINAL), "the class is public and final");
        constants();
    }

    private static void constants() {
        must(ToneSets.NONE == -1, "NONE");
        must(ToneSets.UNKNOWN == -1000000001, "UNKNOWN");
        must(ToneSets.OUTSIDE == -1000000002, "OUTSIDE");
        must(ToneSets.NOT == -1000000003, "NOT");
        must(ToneSets.FULL == -1000000004, "FULL");
        Set<String> names = new HashSet<>(Arrays.asList("NONE", "UNKNOWN", "OUTSIDE", "NOT", "FULL"));
        for (Field field : ToneSets.class.getDeclaredFields()) {
            boolean isConstant = names.contains(field.getName());
            must(Modifier.isPublic(field.getModifiers()) == isConstant, field + " is public only if it is a constant of the face");
            must(isConstant || Modifier.isPrivate(field.getModifiers()), field + " is private");
        }
    }

    private static void insides() {
        Set<String> publicNames = new HashSet<>();
        for (Method method : ToneSets.class.getMethods()) {
            publicNames.add(method.getName());
        }
        Class<?>[] inside = ToneSets.class.getDeclaredClasses();
        must(inside.length + 1 <= 12, "at most twelve classes");
        for (Class<?> type : inside) {
            must(Modifier.isStatic(type.getModifiers()), type + " is static");
            must(!Modifier.isPublic(type.getModifiers()) && !Modifier.isProtected(type.getModifiers()), type + " is hidden");
            int fields = 0;
            for (Field field : type.getDeclaredFields()) {
                boolean isStatic = Modifier.isStatic(field.getModifiers());
                must(!isStatic || Modifier.isFinal(field.getModifiers()), field + " is no static state");
                fields += isStatic ? 0 : 1;
            }
            must(fields <= 20, type + " has at most twenty fields");
            for (Method method : type.getDeclaredMethods()) {
                must(method.getParameterCount() <= 7, method + " has at most seven parameters");
                must(!publicNames.contains(method.getName()), method + " has a name of its own");
            }
        }
    }

    private static String withoutComments(String source) {
        return source.replaceAll("(?s)/\\*.*?\\*/", " ").replaceAll("//[^\n]*", " ");
    }

    private static void words(String source) {
        Set<String> barred = new HashSet<>(Arrays.asList("throw", "throws", "try", "catch", "finally", "synchronized", "assert",
                "package", "protected", "new Thread", "var", "System", "Object", "Random", "native", "volatile"));
        Matcher word = Pattern.compile("[A-Za-z_$][A-Za-z0-9_$]*").matcher(source);
        while (word.find()) {
            must(!barred.contains(word.group()), "the word " + word.group() + " is not used");
        }
        must(!source.contains("->") && !source.contains("::"), "no lambda, no method reference");
        Matcher imported = Pattern.compile("import ([^;]*);").matcher(source);
        while (imported.find()) {
            must(imported.group(1).equals("java.util.Arrays"), "nothing but Arrays is imported: " + imported.group(1));
        }
        Matcher call = Pattern.compile("\\b(Arrays|Math|Integer)\\.(\\w+)").matcher(source);
        Set<String> allowed = new HashSet<>(Arrays.asList("fill", "min", "max", "abs", "bitCount"));
        while (call.find()) {
            must(allowed.contains(call.group(2)), call.group() + " is of the library that the rules leave");
        }
        for (char sign : source.toCharArray()) {
            must(sign < 128, "the source holds no sign above 127");
        }
    }
}
