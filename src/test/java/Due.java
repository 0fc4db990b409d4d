import java.lang.reflect.Method;
import java.util.Arrays;
import java.util.Comparator;

/** Compares answers with those that are due, prints the wrong ones, and ends the test. */
final class Due {
    private static final int MOST_PRINTED = 50;
    private static int asked = 0;
    private static int wrong = 0;
    private static String about = "";

    private Due() {
    }

    static void is(String call, long got, long want) {
        is(call, String.valueOf(got), String.valueOf(want));
    }

    static void is(String call, String got, String want) {
        asked++;
        if (got.equals(want)) {
            return;
        }
        wrong++;
        if (wrong <= MOST_PRINTED) {
            System.out.println(about + call + " answered " + got + ", due is " + want);
        }
    }

    /** Runs each method that bears a sentence; one without an answer asked of it would prove nothing, and is wrong. */
    static void sentences(Class<?> test) throws ReflectiveOperationException {
        Method[] methods = test.getDeclaredMethods();
        Arrays.sort(methods, Comparator.comparing(Method::getName));
        int found = 0;
        for (Method method : methods) {
            Sentence sentence = method.getAnnotation(Sentence.class);
            if (sentence != null) {
                found++;
                int before = asked;
                about = method.getName() + " (\"" + sentence.value() + "\"): ";
                method.setAccessible(true);
                method.invoke(null);
                is("being asked something", asked > before ? 1 : 0, 1);
            }
        }
        about = "";
        System.out.println(found + " sentences");
        end();
    }

    static int asked() {
        return asked;
    }

    static boolean noneWrong() {
        return wrong == 0;
    }

    static void end() {
        System.out.println(asked + " answers, " + wrong + " of them not as due");
        if (wrong != 0) {
            System.exit(1);
        }
    }
}
