import java.io.IOException;
import java.lang.reflect.InvocationTargetException;
import java.lang.reflect.Method;
import java.lang.reflect.Modifier;
import java.nio.file.Files;
import java.nio.file.Path;
import java.util.Arrays;
import java.util.HashMap;
import java.util.List;
import java.util.Map;
import java.util.Set;
import java.util.TreeSet;
import java.util.regex.Matcher;
import java.util.regex.Pattern;
import java.util.stream.Collectors;
import java.util.stream.Stream;

/**
 * What README.md says of answers: each line of its Java blocks is a call whose comment begins with the answer. It is made
 * on SignTables and on NaiveTables, as an answer is right only if the document asks for it, too. Each call of the face
 * must be shown, and the tests that README.md names must be those that there are.
 */
public final class ReadmeTests {
    private static final String NEW_OBJECT = "SignTables x = new SignTables();";
    private static final Pattern CALL = Pattern.compile(
            "(?:(int|long|boolean) (\\w+) = )?x\\.(\\w+)\\(([^()]*)\\); +// (true|false|NONE|-?\\d+)(: .+)?");
    private static final Pattern NUMBER = Pattern.compile("(-?)(0b[01]+|\\d+)");
    private static final Pattern TEST_NAME = Pattern.compile("\\b[A-Z]\\w*Tests\\b");
    private static final Pattern COMMAND_OF_ONE = Pattern.compile("java -cp out (\\w+)");

    private static int wrong;
    private static int answers;

    private final Object tables = new SignTables();
    private final Object naive = new NaiveTables();
    private final Map<String, Object> variables = new HashMap<>();

    private ReadmeTests() {
    }

    public static void main(String[] args) throws IOException {
        String text = Files.readString(Path.of("README.md"));
        Set<String> shown = new TreeSet<>();
        Matcher blocks = Pattern.compile("(?ms)^```java\\n(.*?)^```$").matcher(text);
        while (blocks.find()) {
            playBlock(blocks.group(1).split("\n"), shown);
        }
        Set<String> face = Arrays.stream(SignTables.class.getDeclaredMethods())
                .filter(method -> Modifier.isPublic(method.getModifiers()))
                .map(Method::getName)
                .collect(Collectors.toCollection(TreeSet::new));
        same("the calls that are shown", shown, face);
        testsAreNamed(text);
        System.out.println("ReadmeTests: " + answers + " answers, " + wrong + " wrong");
        if (wrong > 0) {
            System.exit(1);
        }
    }

    private static void fault(String text) {
        wrong++;
        System.out.println("README.md: " + text);
    }

    private static void same(String what, Set<String> found, Set<String> due) {
        if (!found.equals(due)) {
            fault(what + " are " + found + ", due are " + due);
        }
    }

    /** A block is a program of its own: it begins with a new object, and its names are its own. */
    private static void playBlock(String[] lines, Set<String> shown) {
        if (!lines[0].equals(NEW_OBJECT)) {
            fault("a block begins without a new object: " + lines[0]);
        }
        ReadmeTests block = new ReadmeTests();
        for (String line : Arrays.asList(lines).subList(1, lines.length)) {
            Matcher call = CALL.matcher(line);
            if (line.isEmpty()) {
                continue;
            }
            if (!call.matches()) {
                fault("no call with its answer: " + line);
                continue;
            }
            shown.add(call.group(3));
            block.playCall(line, call);
        }
    }

    private void playCall(String line, Matcher call) {
        Method method = methodOf(SignTables.class, call.group(3));
        String[] words = call.group(4).isEmpty() ? new String[0] : call.group(4).split(", ");
        if (method == null || method.getParameterCount() != words.length) {
            fault("no such call: " + line);
            return;
        }
        Object[] arguments = new Object[words.length];
        for (int k = 0; k < words.length; k++) {
            arguments[k] = valueOf(words[k]);
            if (typeOf(arguments[k]) != method.getParameterTypes()[k]) {
                fault("no such argument: " + words[k] + " in " + line);
                return;
            }
        }
        answers++;
        Object due = call.group(5).equals("NONE") ? "-1" : call.group(5);
        Object got = answer(tables, method, arguments);
        Object naively = answer(naive, methodOf(NaiveTables.class, call.group(3)), arguments);
        if (!due.equals(String.valueOf(got)) || !due.equals(String.valueOf(naively))) {
            fault(line + " answered " + got + ", by the model " + naively);
        }
        keep(line, call, method, got);
    }

    private void keep(String line, Matcher call, Method method, Object got) {
        if (call.group(2) == null) {
            return;
        }
        if (!call.group(1).equals(method.getReturnType().getName()) || variables.containsKey(call.group(2))) {
            fault("this does not compile: " + line);
        }
        variables.put(call.group(2), got);
    }

    private static Method methodOf(Class<?> type, String name) {
        for (Method method : type.getDeclaredMethods()) {
            if (method.getName().equals(name) && !Modifier.isPrivate(method.getModifiers())) {
                return method;
            }
        }
        return null;
    }

    private static Object answer(Object object, Method method, Object[] arguments) {
        try {
            return method.invoke(object, arguments);
        } catch (InvocationTargetException thrown) {
            return thrown.getCause();
        } catch (IllegalAccessException hidden) {
            throw new IllegalStateException(hidden);
        }
    }

    private static Class<?> typeOf(Object value) {
        return value instanceof Boolean ? boolean.class : value instanceof Integer ? int.class : null;
    }

    /** A number, true, false, NONE, or a name that an earlier line of the block gave. */
    private Object valueOf(String word) {
        Matcher number = NUMBER.matcher(word);
        if (number.matches()) {
            String digits = number.group(2);
            boolean binary = digits.startsWith("0b");
            return Integer.parseInt(number.group(1) + (binary ? digits.substring(2) : digits), binary ? 2 : 10);
        }
        switch (word) {
            case "true": case "false":
                return Boolean.valueOf(word);
            case "SignTables.NONE":
                return SignTables.NONE;
            default:
                return variables.get(word);
        }
    }

    private static void testsAreNamed(String text) throws IOException {
        Set<String> files = new TreeSet<>();
        try (Stream<Path> list = Files.list(Path.of("src/test/java"))) {
            List<String> names = list.map(file -> file.getFileName().toString()).collect(Collectors.toList());
            names.stream().filter(name -> name.endsWith("Tests.java"))
                    .forEach(name -> files.add(name.substring(0, name.length() - ".java".length())));
        }
        Set<String> named = new TreeSet<>();
        Matcher names = TEST_NAME.matcher(text);
        while (names.find()) {
            named.add(names.group());
        }
        same("the tests that are named", named, files);
        Matcher one = COMMAND_OF_ONE.matcher(text);
        if (!one.find() || !files.contains(one.group(1))) {
            fault("no command by which one test is run");
        }
        if (!text.contains("`.ci/run`") || !Files.isExecutable(Path.of(".ci/run"))) {
            fault("no command by which all tests are run");
        }
    }
}
