import java.lang.reflect.Field;
import java.lang.reflect.Member;
import java.lang.reflect.Method;
import java.lang.reflect.Modifier;
import java.nio.file.Files;
import java.nio.file.Path;
import java.util.Arrays;
import java.util.TreeSet;
import java.util.regex.Matcher;
import java.util.regex.Pattern;

/** The face is the document's and nothing more, and the file keeps to those rules of the language that a search finds. */
public final class FaceTest {
    private static final String[] METHODS = {
        "begin(int)", "points(int,int,int,int)", "weigh(int,int,int)", "take(int)", "mix(int,int,int)", "roll(int)",
        "forget(int)", "read()", "cell(int,int,int)", "inequality(int,int)", "count(int)", "worth(int)",
        "extreme(int,int)", "best(int,int)", "neverTold(int)", "sure()", "put(long)", "wipe()", "fault()", "undo()",
        "save(int)", "restore(int)"};
    private static final String[] CONSTANTS = {
        "NO_SUCH -1", "BAD_VALUE -2", "BAD_TEXT -3", "TOO_MANY -4", "NOT_POSSIBLE -5", "NONE -6"};
    private static final String FORBIDDEN = "throw|throws|try|catch|synchronized|assert|import|package|native|"
        + "Object|System\\.(?!arraycopy)\\w+|Math\\.\\w+Exact";

    private FaceTest() {
    }

    private static boolean isOpen(Member member) {
        return !Modifier.isPrivate(member.getModifiers());
    }

    private static void methods() {
        TreeSet<String> open = new TreeSet<>();
        for (Method method : ObedientDice.class.getDeclaredMethods()) {
            if (isOpen(method)) {
                String types = Arrays.toString(Arrays.stream(method.getParameterTypes()).map(Class::getName).toArray());
                open.add(method.getName() + types.replace(", ", ",").replace('[', '(').replace(']', ')'));
                Due.is(method + " is public", method.getModifiers(), Modifier.PUBLIC);
                Due.is(method + " returns an int", method.getReturnType() == int.class ? 1 : 0, 1);
            }
        }
        same("methods", open, METHODS);
    }

    private static void constants() throws IllegalAccessException {
        TreeSet<String> open = new TreeSet<>();
        for (Field field : ObedientDice.class.getDeclaredFields()) {
            if (isOpen(field)) {
                int modifiers = Modifier.PUBLIC | Modifier.STATIC | Modifier.FINAL;
                Due.is(field + " is a constant", field.getModifiers(), modifiers);
                open.add(field.getName() + " " + field.getInt(null));
            }
        }
        same("constants", open, CONSTANTS);
    }

    private static void same(String what, TreeSet<String> got, String[] want) {
        TreeSet<String> due = new TreeSet<>(Arrays.asList(want));
        if (!got.equals(due)) {
            System.out.println(what + ": " + got + ", due are " + due);
        }
        Due.is(what + " are the document's", got.equals(due) ? 1 : 0, 1);
    }

    private static void classes() {
        Due.is("final", ObedientDice.class.getModifiers(), Modifier.PUBLIC | Modifier.FINAL);
        Due.is("constructors", ObedientDice.class.getDeclaredConstructors().length, 1);
        for (Class<?> inside : ObedientDice.class.getDeclaredClasses()) {
            Due.is(inside + " is static", inside.getModifiers() & Modifier.STATIC, Modifier.STATIC);
            Due.is(inside + " isn't public", inside.getModifiers() & (Modifier.PUBLIC | Modifier.PROTECTED), 0);
            Due.is(inside + "'s fields are few", inside.getDeclaredFields().length <= 20 ? 1 : 0, 1);
            privateNames(inside);
        }
        privateNames(ObedientDice.class);
    }

    private static void privateNames(Class<?> type) {
        for (Method method : type.getDeclaredMethods()) {
            boolean taken = Arrays.stream(METHODS).anyMatch(face -> face.startsWith(method.getName() + "("));
            Due.is(method + " bears a name of the face", taken && !isOpen(method) ? 1 : 0, 0);
        }
    }

    private static void words() throws java.io.IOException {
        String text = Files.readString(Path.of("src/main/java/ObedientDice.java"));
        String code = text.replaceAll("(?s)/\\*.*?\\*/", "").replaceAll("//[^\n]*", "");
        Matcher matcher = Pattern.compile("(?<![\\w.])(" + FORBIDDEN + ")(?!\\w)|->|::").matcher(code);
        while (matcher.find()) {
            System.out.println("not in the language: " + matcher.group());
            Due.is("words outside the language", 1, 0);
        }
        Due.is("signs of the file", text.chars().allMatch(sign -> sign < 127) ? 1 : 0, 1);
    }

    public static void main(String[] args) throws Exception {
        methods();
        constants();
        classes();
        words();
        Due.end();
    }
}
