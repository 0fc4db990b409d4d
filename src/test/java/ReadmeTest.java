import java.lang.reflect.Method;
import java.nio.file.Files;
import java.nio.file.Path;
import java.util.TreeSet;
import java.util.regex.Matcher;
import java.util.regex.Pattern;

/** README.md tells the truth: the calls of its examples answer what stands behind them, and it names each method. */
public final class ReadmeTest {
    private static final Pattern CALL = Pattern.compile("dice\\.(\\w+)\\(([^)]*)\\); +// (-?\\d+)\\b.*");
    private static final String MAKING = "ObedientDice dice = new ObedientDice();";

    private static ObedientDice dice = null;

    private ReadmeTest() {
    }

    private static Method method(String name) {
        for (Method method : ObedientDice.class.getDeclaredMethods()) {
            if (method.getName().equals(name)) {
                return method;
            }
        }
        throw new IllegalStateException("README.md calls " + name + ", which there is not");
    }

    private static Object[] arguments(Method method, String text) {
        Class<?>[] types = method.getParameterTypes();
        String[] words = text.isEmpty() ? new String[0] : text.split(", ");
        Due.is("arguments of " + method.getName(), words.length, types.length);
        Object[] arguments = new Object[words.length];
        for (int i = 0; i < words.length; i++) {
            if (types[i] == long.class) {
                arguments[i] = Long.decode(words[i].replace("L", ""));
            } else {
                arguments[i] = Integer.decode(words[i]);
            }
        }
        return arguments;
    }

    private static void line(String line) throws ReflectiveOperationException {
        if (line.equals(MAKING)) {
            dice = new ObedientDice();
            return;
        }
        Matcher matcher = CALL.matcher(line);
        Due.is("being a call with its answer: " + line, matcher.matches() ? 1 : 0, 1);
        if (matcher.matches()) {
            Method method = method(matcher.group(1));
            int answer = (int) method.invoke(dice, arguments(method, matcher.group(2)));
            Due.is(line, answer, Long.parseLong(matcher.group(3)));
        }
    }

    private static void examples(String[] blocks) throws ReflectiveOperationException {
        Due.is("README.md has examples", blocks.length > 1 ? 1 : 0, 1);
        for (int i = 1; i < blocks.length; i++) {
            for (String line : blocks[i].split("```")[0].strip().split("\n")) {
                line(line);
            }
        }
    }

    private static void names(String text) {
        TreeSet<String> missing = new TreeSet<>();
        for (Method method : ObedientDice.class.getMethods()) {
            if (method.getDeclaringClass() == ObedientDice.class && !text.contains("`" + method.getName() + "`")) {
                missing.add(method.getName());
            }
        }
        Due.is("the methods that README.md doesn't name", missing.toString(), "[]");
    }

    public static void main(String[] args) throws Exception {
        String text = Files.readString(Path.of("README.md"));
        examples(text.split("```java\n"));
        names(text);
        Due.end();
    }
}
