import java.lang.reflect.Field;
import java.lang.reflect.Method;
import java.lang.reflect.Modifier;
import java.nio.file.Files;
import java.nio.file.Path;
import java.util.Arrays;
import java.util.Set;
import java.util.TreeSet;
import java.util.regex.Matcher;
import java.util.regex.Pattern;

/** The class has just the public face of the document, and its text stays inside the rules that can be seen from words. */
public final class FaceTest {
    private static final Set<String> FACE = new TreeSet<>(Arrays.asList(
        "add 3", "sow 2", "drop 1", "limit 1", "goods 0", "weightOf 1", "valueOf 1", "best 0", "bestCode 0",
        "bestStrict 0", "bestStrictCode 0", "fitting 0", "weighing 1", "fullest 0", "lightest 1", "two 1",
        "without 1", "halves 0"));
    private static final Pattern RULED_OUT = Pattern.compile(
        "\\b(import|package|throw|throws|try|catch|synchronized|assert|instanceof|null|float|double|String|Math"
        + "|Integer|System|Arrays|Object|enum|record|interface|protected)\\b|->|::");
    private static int wrong = 0;

    private static void hold(boolean holds, String what) {
        if (!holds) {
            wrong++;
            System.out.println("does not hold: " + what);
        }
    }

    private static void checkMethods() {
        Set<String> found = new TreeSet<>();
        Set<String> privateNames = new TreeSet<>();
        for (Method method : KnapsackFamily.class.getDeclaredMethods()) {
            if (Modifier.isPrivate(method.getModifiers())) {
                privateNames.add(method.getName());
                continue;
            }
            hold(method.getModifiers() == Modifier.PUBLIC, method + " is public and nothing else");
            hold(method.getReturnType() == int.class, method + " answers an int");
            for (Class<?> type : method.getParameterTypes()) {
                hold(type == int.class, method + " takes ints");
            }
            found.add(method.getName() + " " + method.getParameterCount());
        }
        hold(found.equals(FACE), "the methods are those of the document: " + found);
        for (String of : FACE) {
            String name = of.substring(0, of.indexOf(' '));
            hold(!privateNames.contains(name), "no private method is called " + name);
        }
    }

    private static void checkClass() {
        Class<?> type = KnapsackFamily.class;
        hold(type.getModifiers() == (Modifier.PUBLIC | Modifier.FINAL), "the class is public and final");
        hold(type.getDeclaredClasses().length == 0, "there is no nested class");
        hold(type.getDeclaredConstructors().length == 1, "there is one constructor");
        hold(type.getConstructors().length == 1 && type.getConstructors()[0].getParameterCount() == 0,
            "the constructor is public and takes nothing");
        for (Field field : type.getDeclaredFields()) {
            int modifiers = field.getModifiers();
            hold(Modifier.isPrivate(modifiers), field + " is private");
            hold(!Modifier.isStatic(modifiers) || Modifier.isFinal(modifiers) && field.getType() == int.class,
                field + " is a constant if it is static");
        }
    }

    private static void checkWords(String source) throws Exception {
        String text = Files.readString(Path.of(source));
        String code = text.replaceAll("(?s)/\\*.*?\\*/", "").replaceAll("//[^\n]*", "");
        Matcher matcher = RULED_OUT.matcher(code);
        while (matcher.find()) {
            hold(false, "the program does without " + matcher.group());
        }
    }

    /** The argument is the path of the class's source. */
    public static void main(String[] args) throws Exception {
        checkClass();
        checkMethods();
        checkWords(args.length > 0 ? args[0] : "src/main/java/KnapsackFamily.java");
        System.out.println(wrong == 0 ? "the face is as due" : wrong + " things are not as due");
        if (wrong != 0) {
            System.exit(1);
        }
    }
}
