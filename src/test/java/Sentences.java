import java.io.IOException;
import java.lang.reflect.InvocationTargetException;
import java.lang.reflect.Method;
import java.nio.file.Files;
import java.nio.file.Path;
import java.util.Arrays;
import java.util.Comparator;

/** Runs each test of a class that Says a sentence of the document, by itself, and tells which sentence is broken. */
final class Sentences {
    private static final Path DOCUMENT = Path.of("../shared/DOC.md");
    private static int wrong = 0;
    private static int answers = 0;
    private static String test = "";

    private Sentences() { }

    static void due(String call, long got, long want) {
        answers++;
        if (got != want) {
            wrong++;
            System.out.println(test + ": " + call + " answered " + got + ", due is " + want);
        }
    }

    static void same(String what, String got, String want) {
        answers++;
        if (!got.equals(want)) {
            wrong++;
            System.out.println(test + ": " + what + "\n  is  " + got + "\n  due " + want);
        }
    }

    static void holds(String what, boolean it) {
        due(what, it ? 1 : 0, 1);
    }

    static void runAll(Class<?> tests) {
        Method[] all = tests.getDeclaredMethods();
        Arrays.sort(all, Comparator.comparing(Method::getName));
        int run = 0;
        for (Method m : all) {
            Says says = m.getAnnotation(Says.class);
            if (says != null) {
                run++;
                runOne(m, says.value());
            }
        }
        System.out.println(run + " tests, " + answers + " answers, " + wrong + " not as due");
        if (wrong != 0 || run == 0) {
            System.exit(1);
        }
    }

    private static void runOne(Method m, String sentence) {
        test = m.getName() + " (\"" + sentence + "\")";
        lookUp(sentence);
        int before = answers;
        try {
            m.setAccessible(true);
            m.invoke(null);
        } catch (InvocationTargetException e) {
            wrong++;
            System.out.println(test + " threw " + e.getCause());
        } catch (IllegalAccessException e) {
            wrong++;
            System.out.println(test + " can not be run: " + e);
        }
        holds("a test that asks something", answers > before);
    }

    /** A remark alone: the class is not at fault when the document's words change. */
    private static void lookUp(String sentence) {
        try {
            String words = Files.isReadable(DOCUMENT) ? Files.readString(DOCUMENT).replaceAll("\\s+", " ") : sentence;
            if (!words.contains(sentence)) {
                System.out.println("remark: the document does not say: " + sentence);
            }
        } catch (IOException e) {
            System.out.println("remark: the document can not be read");
        }
    }
}
