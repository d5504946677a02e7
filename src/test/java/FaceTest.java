import java.io.IOException;
import java.lang.reflect.Constructor;
import java.lang.reflect.Field;
import java.lang.reflect.Method;
import java.lang.reflect.Modifier;
import java.nio.file.Files;
import java.nio.file.Path;
import java.util.Arrays;
import java.util.HashSet;
import java.util.List;
import java.util.Set;
import java.util.TreeSet;
import java.util.regex.Matcher;
import java.util.regex.Pattern;

/** The public face of the document, and the rules of LANGUAGE.md that a program can look at. */
public final class FaceTest {
    private static final List<String> FACE = List.of(
        "parameter 1", "constant 1", "combine 3", "square 1", "term 2", "clear 0", "nodes 0", "terms 0",
        "place 3", "push 3", "shift 1", "position 2", "momentum 2", "valueOf 2", "target 1", "slope 2",
        "drift 1", "targetAt 3", "leap 2", "turn 1", "copy 2", "live 0");
    private static final Set<Class<?>> TYPES = Set.of(
        int.class, long.class, short.class, byte.class, char.class, boolean.class, int[].class,
        long[].class, short[].class, byte[].class, char[].class, boolean[].class);
    private static final List<String> FORBIDDEN = List.of(
        "import", "package", "throw", "throws", "try", "catch", "finally", "synchronized", "assert",
        "instanceof", "null", "float", "double", "var", "enum", "record", "interface", "extends",
        "implements", "String", "Object", "Math", "Integer", "Long", "System", "Arrays");

    public static void main(String[] args) throws IOException {
        classItself();
        methods();
        fields();
        source(Files.readString(Path.of("src/main/java/TapeSampler.java")));
        Due.end();
    }

    private static void classItself() {
        Class<?> type = TapeSampler.class;
        Due.holds("public and final", Modifier.isPublic(type.getModifiers()) && Modifier.isFinal(type.getModifiers()));
        Due.is("nested classes", type.getDeclaredClasses().length, 0);
        Constructor<?>[] made = type.getDeclaredConstructors();
        Due.is("constructors", made.length, 1);
        Due.holds("public constructor", Modifier.isPublic(made[0].getModifiers()));
        Due.is("the constructor's parameters", made[0].getParameterCount(), 0);
    }

    private static void methods() {
        Set<String> open = new TreeSet<>();
        Set<String> openNames = new HashSet<>();
        Set<String> hiddenNames = new TreeSet<>();
        for (Method method : TapeSampler.class.getDeclaredMethods()) {
            String name = method.getName();
            boolean isPublic = Modifier.isPublic(method.getModifiers());
            Due.holds(name + " is public or private", isPublic || Modifier.isPrivate(method.getModifiers()));
            Due.holds(name + " has at most seven parameters", method.getParameterCount() <= 7);
            Due.holds(name + " answers no array", !method.getReturnType().isArray());
            if (isPublic) {
                open.add(name + " " + method.getParameterCount());
                openNames.add(name);
                Due.holds(name + " answers an int", method.getReturnType() == int.class);
                Due.holds(name + " is not static", !Modifier.isStatic(method.getModifiers()));
                Due.holds(name + " takes ints", Arrays.stream(method.getParameterTypes()).allMatch(t -> t == int.class));
            } else {
                hiddenNames.add(name);
            }
        }
        Due.holds("the face is the document's: " + open, open.equals(new TreeSet<>(FACE)));
        hiddenNames.retainAll(openNames);
        Due.holds("no private method is named as a public one: " + hiddenNames, hiddenNames.isEmpty());
    }

    private static void fields() {
        int own = 0;
        for (Field field : TapeSampler.class.getDeclaredFields()) {
            int modifiers = field.getModifiers();
            Due.holds(field + " is private", Modifier.isPrivate(modifiers));
            Due.holds(field + " has a plain type", TYPES.contains(field.getType()));
            if (Modifier.isStatic(modifiers)) {
                Due.holds(field + " is final", Modifier.isFinal(modifiers));
                Due.holds(field + " is an int or long", field.getType() == int.class || field.getType() == long.class);
            } else {
                own++;
                Due.holds(field + ", an array, is final", !field.getType().isArray() || Modifier.isFinal(modifiers));
            }
        }
        Due.holds("at most forty fields", own <= 40);
    }

    private static void source(String text) {
        String code = text.replaceAll("(?s)/\\*.*?\\*/", " ").replaceAll("//[^\n]*", " ");
        for (String word : FORBIDDEN) {
            Due.holds("without " + word, !Pattern.compile("\\b" + word + "\\b").matcher(code).find());
        }
        Due.holds("without lambdas and method references", !code.contains("->") && !code.contains("::"));
        Due.holds("without strings", !code.contains("\""));
        Matcher made = Pattern.compile("\\bnew\\b[^;]*;").matcher(code);
        while (made.find()) {
            String one = made.group();
            Due.holds("an array of fixed length: " + one, one.matches("new (int|boolean)\\[[A-Z_]+\\];"));
        }
        Matcher makers = Pattern.compile("(?m)^(.*)\\bnew\\b").matcher(code);
        while (makers.find()) {
            String before = makers.group(1);
            Due.holds("made in a field: " + before, before.matches("    private final (int|boolean)\\[\\] \\w+ = "));
        }
    }
}
