import java.lang.reflect.Constructor;
import java.lang.reflect.Field;
import java.lang.reflect.Method;
import java.lang.reflect.Modifier;
import java.nio.file.Files;
import java.nio.file.Path;
import java.util.ArrayList;
import java.util.Arrays;
import java.util.List;
import java.util.Set;
import java.util.TreeSet;
import java.util.regex.Matcher;
import java.util.regex.Pattern;

/** What of ../shared/LANGUAGE.md and of the document's face can be seen from the class and its text. */
public final class LanguageTests {
    private static final String[] FACE = {
        "int tell(int)", "int take()", "int residues(int)", "int twice(int)", "int doubled(int)",
        "int product(int,int)", "int four(int,int,int,int,int)", "int bordered(int,int)", "int completed(int)",
        "int copy(int)", "boolean drop(int)", "boolean sign(int,boolean,int)", "boolean exchange(int,boolean,int,int)",
        "boolean turn(int)", "boolean switched(int,int,int,int,int,int)", "int norm(int)", "int order(int)",
        "int bits(int,boolean,int)", "int trail(int,boolean,int,int)", "int along(int,boolean,int,int)",
        "int perpendicular(int,int)", "int sum(int)", "int best(int,int)", "int tally(int,boolean,int)",
        "int part(int,boolean,int,int)", "int form(int,int)", "long determinant(int)", "int like(int,int)",
        "int image(int,int,boolean,int)", "long symmetries(int)", "int joined(int,int,int)", "int common(int,int,int)",
        "int block(int,int,int,int)", "int through(int,int,int,int)", "int halves(int,int,int)",
        "int nearest(int,int,int)", "int signal(int,int)", "int spectrum(int,int,boolean)",
        "int field(int,int,int,int)", "int fours(int,int,int)", "int count(int)"};
    private static final Set<String> LIBRARY = Set.of(
        "Integer.bitCount", "Integer.numberOfTrailingZeros", "Math.abs", "Math.min", "Math.max", "Math.floorMod",
        "Arrays.fill");
    private static final int LINES_OF_A_METHOD = 60;

    private static int wrong;

    public static void main(String[] args) throws Exception {
        faceIsTheDocuments();
        membersKeepTheRules();
        textKeepsTheRules(Files.readString(Path.of("src/main/java/SignTables.java")));
        System.out.println("LanguageTests: " + wrong + " faults");
        if (wrong > 0) {
            System.exit(1);
        }
    }

    private static void fault(String text) {
        wrong++;
        System.out.println("language: " + text);
    }

    private static void faceIsTheDocuments() {
        Set<String> found = new TreeSet<>();
        for (Method method : SignTables.class.getDeclaredMethods()) {
            if (!Modifier.isPrivate(method.getModifiers())) {
                found.add(nameOf(method));
            }
        }
        Set<String> due = new TreeSet<>(Arrays.asList(FACE));
        if (!found.equals(due)) {
            fault("the face is " + found);
        }
        for (Field field : SignTables.class.getDeclaredFields()) {
            if (!Modifier.isPrivate(field.getModifiers()) && !field.getName().equals("NONE")) {
                fault("a field that can be seen: " + field.getName());
            }
        }
        Constructor<?>[] constructors = SignTables.class.getDeclaredConstructors();
        if (constructors.length != 1 || constructors[0].getParameterCount() != 0) {
            fault("constructors");
        }
        if (!Modifier.isFinal(SignTables.class.getModifiers())) {
            fault("the class is not final");
        }
    }

    private static String nameOf(Method method) {
        List<String> types = new ArrayList<>();
        for (Class<?> type : method.getParameterTypes()) {
            types.add(type.getName());
        }
        return method.getReturnType().getName() + " " + method.getName() + "(" + String.join(",", types) + ")";
    }

    private static void membersKeepTheRules() {
        Set<String> faceNames = new TreeSet<>();
        for (String line : FACE) {
            faceNames.add(line.substring(line.indexOf(' ') + 1, line.indexOf('(')));
        }
        List<Class<?>> classes = new ArrayList<>(Arrays.asList(SignTables.class.getDeclaredClasses()));
        classes.add(SignTables.class);
        if (classes.size() > 12) {
            fault("too many classes");
        }
        for (Class<?> type : classes) {
            if (type != SignTables.class && !Modifier.isStatic(type.getModifiers())) {
                fault("not static: " + type.getName());
            }
            int own = 0;
            for (Field field : type.getDeclaredFields()) {
                own += Modifier.isStatic(field.getModifiers()) ? 0 : 1;
                if (Modifier.isStatic(field.getModifiers()) && !Modifier.isFinal(field.getModifiers())) {
                    fault("static and not final: " + field.getName());
                }
            }
            if (own > 20) {
                fault("too many fields: " + type.getName());
            }
            for (Method method : type.getDeclaredMethods()) {
                if (method.getParameterCount() > 7) {
                    fault("too many parameters: " + method.getName());
                }
                boolean hidden = type != SignTables.class || Modifier.isPrivate(method.getModifiers());
                if (hidden && faceNames.contains(method.getName())) {
                    fault("a method of one's own with a name of the face: " + method.getName());
                }
            }
        }
    }

    private static void textKeepsTheRules(String source) {
        String text = source.replaceAll("(?s)/\\*.*?\\*/", "").replaceAll("//[^\n]*", "");
        String[] refused = {"throw", "throws", "try", "catch", "synchronized", "assert", "protected", "instanceof",
            "package", "var", "hashCode", "toString", "System", "Random", "Thread", "Exact"};
        for (String word : refused) {
            if (Pattern.compile("\\b" + word + "\\b").matcher(text).find()) {
                fault("the word " + word);
            }
        }
        if (text.contains("->") || text.contains("::") || text.contains("static {")) {
            fault("a lambda, a method reference or a static block");
        }
        Matcher imports = Pattern.compile("import ([^;]*);").matcher(text);
        while (imports.find()) {
            if (!imports.group(1).equals("java.util.Arrays")) {
                fault("import " + imports.group(1));
            }
        }
        Matcher calls = Pattern.compile("\\b(Integer|Long|Math|Arrays|String|Character|Boolean)\\.\\w+").matcher(text);
        while (calls.find()) {
            if (!LIBRARY.contains(calls.group())) {
                fault("library: " + calls.group());
            }
        }
        Matcher makes = Pattern.compile("(?m)^(.*)\\bnew (\\w+)").matcher(text);
        while (makes.find()) {
            boolean inField = makes.group(1).contains("private ");
            boolean inConstructor = makes.start() < text.indexOf("public int tell");
            if (!inField && !inConstructor) {
                fault("something is made by a call: " + makes.group().trim());
            }
        }
        methodsAreShort(source);
    }

    /** A method ends at a brace that stands as far in as its own line. */
    private static void methodsAreShort(String source) {
        String[] lines = source.split("\n");
        for (int i = 0; i < lines.length; i++) {
            Matcher head = Pattern.compile("( +)(private|public) .*\\) \\{").matcher(lines[i]);
            if (!head.matches()) {
                continue;
            }
            int end = i + 1;
            while (end < lines.length && !lines[end].equals(head.group(1) + "}")) {
                end++;
            }
            if (end - i > LINES_OF_A_METHOD) {
                fault("a long method: " + lines[i].trim());
            }
        }
    }
}
