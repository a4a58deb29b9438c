import java.lang.reflect.Field;
import java.lang.reflect.Method;
import java.lang.reflect.Modifier;
import java.nio.file.Files;
import java.nio.file.Path;
import java.util.ArrayDeque;
import java.util.ArrayList;
import java.util.Deque;
import java.util.List;
import java.util.Set;
import java.util.TreeSet;
import java.util.regex.Matcher;
import java.util.regex.Pattern;

/** The class has just the public face of the document, and keeps to those rules that are easily read off its text. */
public final class FaceTest {
    /** The document's own lines under "The public face", without the last sign. */
    private static final List<String> FACE = List.of(
        "public KnapsackFamily()",
        "public int add(int weight, int value, int sort)",
        "public int sow(int seed, int count)",
        "public int drop(int i)",
        "public int limit(int limit)",
        "public int goods()",
        "public int weightOf(int code)",
        "public int valueOf(int code)",
        "public int best()",
        "public int bestCode()",
        "public int bestStrict()",
        "public int bestStrictCode()",
        "public int fitting()",
        "public int weighing(int weight)",
        "public int fullest()",
        "public int lightest(int value)",
        "public int two(int other)",
        "public int without(int i)",
        "public int halves()");
    private static final Pattern OPEN_LINE = Pattern.compile("(?m)^ {4}(public [^{;]*[^{; ]) *[{;]");
    private static final Pattern ARRAY_FIELD = Pattern.compile(
        "(?m)^ {4}private final int\\[] \\w+ = new int\\[([A-Z_]+|[1-9][0-9]*)];$");
    private static final Set<Class<?>> TYPES = Set.of(int.class, long.class, short.class, byte.class, char.class,
        boolean.class);
    private static final Set<String> NOT_CALLS = Set.of("if", "for", "while", "switch", "return", "");
    private static final int MOST_FIELDS = 40;
    private static final int MOST_PARAMETERS = 7;
    private static final int MOST_LINES = 60;
    private static final Pattern RULED_OUT = Pattern.compile(
        "\\b(import|package|throw|throws|try|catch|synchronized|assert|instanceof|null|float|double|String|Math"
        + "|Integer|System|Arrays|Object|enum|record|interface|protected)\\b|->|::");
    private static int wrong = 0;

    private static void hold(boolean holds, String what) {
        if (!holds) {
            wrong++;
            System.out.println("does not hold: " + what);
        }
    }

    private static void checkMethods() {
        Set<String> publicNames = new TreeSet<>();
        Set<String> privateNames = new TreeSet<>();
        for (Method method : KnapsackFamily.class.getDeclaredMethods()) {
            hold(method.getParameterCount() <= MOST_PARAMETERS, method + " takes at most seven parameters");
            if (Modifier.isPrivate(method.getModifiers())) {
                hold(!method.getReturnType().isArray(), method + " answers no array");
                privateNames.add(method.getName());
                continue;
            }
            hold(method.getModifiers() == Modifier.PUBLIC, method + " is public and nothing else");
            hold(method.getReturnType() == int.class, method + " answers an int");
            for (Class<?> type : method.getParameterTypes()) {
                hold(type == int.class, method + " takes ints");
            }
            hold(publicNames.add(method.getName()), "there is one public method " + method.getName());
        }
        hold(publicNames.size() == FACE.size() - 1, "there are as many public methods as in the document: " + publicNames);
        for (String name : publicNames) {
            hold(!privateNames.contains(name), "no private method is called " + name);
        }
    }

    private static void checkFace(String code) {
        List<String> found = new ArrayList<>();
        Matcher line = OPEN_LINE.matcher(code);
        while (line.find()) {
            found.add(line.group(1));
        }
        hold(new TreeSet<>(found).equals(new TreeSet<>(FACE)) && found.size() == FACE.size(),
            "the constructor and the methods are as they stand in the document: " + found);
    }

    private static void checkClass() {
        Class<?> type = KnapsackFamily.class;
        hold(type.getModifiers() == (Modifier.PUBLIC | Modifier.FINAL), "the class is public and final");
        hold(type.getDeclaredClasses().length == 0, "there is no nested class");
        hold(type.getDeclaredConstructors().length == 1, "there is one constructor");
        hold(type.getConstructors().length == 1 && type.getConstructors()[0].getParameterCount() == 0,
            "the constructor is public and takes nothing");
    }

    private static void checkFields() {
        int variable = 0;
        for (Field field : KnapsackFamily.class.getDeclaredFields()) {
            int modifiers = field.getModifiers();
            Class<?> type = field.getType();
            hold(Modifier.isPrivate(modifiers), field + " is private");
            if (Modifier.isStatic(modifiers)) {
                hold(Modifier.isFinal(modifiers) && (type == int.class || type == long.class), field + " is a constant");
            } else {
                variable++;
                hold(TYPES.contains(type.isArray() ? type.getComponentType() : type), field + " is a number or a row of them");
                hold(!type.isArray() || Modifier.isFinal(modifiers), field + " stays the array it is");
            }
        }
        hold(variable <= MOST_FIELDS, "there are at most some forty fields: " + variable);
    }

    private static void checkWords(String code) {
        Matcher matcher = RULED_OUT.matcher(code);
        while (matcher.find()) {
            hold(false, "the program does without " + matcher.group());
        }
        String beside = ARRAY_FIELD.matcher(code).replaceAll("");
        hold(!Pattern.compile("\\bnew\\b").matcher(beside).find(), "arrays are made in the initialisers of fields alone");
    }

    /** No call stands inside the arguments of another one. */
    private static void checkArguments(String code) {
        Deque<String> open = new ArrayDeque<>();
        for (int at = 0; at < code.length(); at++) {
            if (code.charAt(at) == '(') {
                String before = code.substring(0, at).stripTrailing();
                String name = before.replaceFirst("(?s)^.*[^A-Za-z0-9_]", "");
                boolean call = !NOT_CALLS.contains(name);
                hold(!call || open.stream().allMatch(NOT_CALLS::contains), "no call in the arguments of a call: " + name);
                open.push(name);
            } else if (code.charAt(at) == ')' && !open.isEmpty()) {
                open.pop();
            }
        }
    }

    private static void checkLengths(String code) {
        int begin = 0;
        String[] lines = code.split("\n");
        for (int at = 0; at < lines.length; at++) {
            if (lines[at].matches(" {4}\\S.*\\{")) {
                begin = at;
            } else if (lines[at].equals("    }")) {
                hold(at - begin < MOST_LINES, "methods stay short: " + lines[begin].strip());
            }
        }
    }

    /** The argument is the path of the class's source. */
    public static void main(String[] args) throws Exception {
        String text = Files.readString(Path.of(args.length > 0 ? args[0] : "src/main/java/KnapsackFamily.java"));
        String code = text.replaceAll("(?s)/\\*.*?\\*/", "").replaceAll("//[^\n]*", "");
        checkClass();
        checkFields();
        checkMethods();
        checkFace(code);
        checkWords(code);
        checkArguments(code);
        checkLengths(code);
        System.out.println(wrong == 0 ? "the face is as due" : wrong + " things are not as due");
        if (wrong != 0) {
            System.exit(1);
        }
    }
}
