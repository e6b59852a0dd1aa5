import java.io.IOException;
import java.lang.reflect.Field;
import java.lang.reflect.Method;
import java.lang.reflect.Modifier;
import java.nio.file.Files;
import java.nio.file.Path;
import java.util.ArrayList;
import java.util.Arrays;
import java.util.List;
import java.util.Set;
import java.util.TreeSet;
import java.util.regex.Matcher;
import java.util.regex.Pattern;

/** The rules of LANGUAGE.md that a program can look at, the face of the document, and that calls make no objects. */
public final class LanguageTest {
    private static final Path SOURCE = Path.of("src/main/java/StripsOfFour.java");
    private static final String[] FACE = {
        "int write(int)", "int wipe()", "int fault()", "int fair()", "int about(int)", "int booth(int,int)",
        "int person(int,int)", "int strip(int,int)", "int look(int,int,int)", "long seed(long)", "int enter(int,int)",
        "int leave(int)", "int hat(int)", "int minute()", "int stuck()", "int tear(int,int)", "int day()", "int undo()",
        "int found(int,int,int)", "int together(int)", "int orders()", "int orderAt(int)", "int forgery(int,int,int)",
        "int toSit(int,int)", "int between(int,int)", "int most(int,int)", "int eyes(int,int)",
        "long whose(int,int,int,boolean)", "int open(int,int,boolean)", "int keep(int)", "int again(int)"};
    private static int wrong = 0;

    private static void hold(boolean holds, String what) {
        if (!holds) {
            wrong++;
            System.out.println("does not hold: " + what);
        }
    }

    public static void main(String[] args) throws IOException {
        face();
        inside();
        words(codeOf(Files.readString(SOURCE)));
        room();
        System.out.println(wrong == 0 ? "the rules hold" : wrong + " rules do not hold");
        if (wrong != 0) {
            System.exit(1);
        }
    }

    private static String told(Method m) {
        StringBuilder t = new StringBuilder(m.getReturnType().getName()).append(' ').append(m.getName()).append('(');
        for (int i = 0; i < m.getParameterCount(); i++) {
            t.append(i > 0 ? "," : "").append(m.getParameterTypes()[i].getName());
        }
        return t.append(')').toString();
    }

    private static void face() {
        Class<?> c = StripsOfFour.class;
        hold(Modifier.isFinal(c.getModifiers()) && Modifier.isPublic(c.getModifiers()), "public and final");
        hold(c.getDeclaredConstructors().length == 1 && c.getConstructors().length == 1, "one constructor, public");
        Set<String> shown = new TreeSet<>();
        Set<String> names = new TreeSet<>();
        for (Method m : c.getDeclaredMethods()) {
            if (!Modifier.isPrivate(m.getModifiers())) {
                shown.add(told(m));
                names.add(m.getName());
                hold(Modifier.isPublic(m.getModifiers()) && !Modifier.isStatic(m.getModifiers()), "public: " + m);
            }
        }
        hold(shown.equals(new TreeSet<>(Arrays.asList(FACE))), "the methods of the face: " + shown);
        for (Class<?> k : classes()) {
            for (Method m : k.getDeclaredMethods()) {
                hold(k == c && Modifier.isPublic(m.getModifiers()) || !names.contains(m.getName()), "no name of a public method: " + m);
            }
        }
        Set<String> constants = new TreeSet<>();
        for (Field f : c.getDeclaredFields()) {
            if (!Modifier.isPrivate(f.getModifiers())) {
                constants.add(f.getName());
                hold(Modifier.isPublic(f.getModifiers()) && f.getType() == int.class, "a public constant: " + f);
            }
        }
        hold(constants.equals(Set.of("UNKNOWN", "BAD", "LATE", "FULL", "NONE")), "the constants of the face: " + constants);
    }

    private static List<Class<?>> classes() {
        List<Class<?>> all = new ArrayList<>();
        all.add(StripsOfFour.class);
        all.addAll(Arrays.asList(StripsOfFour.class.getDeclaredClasses()));
        return all;
    }

    private static void inside() {
        hold(classes().size() <= 12, "some twelve classes");
        for (Class<?> k : classes()) {
            int fields = 0;
            for (Field f : k.getDeclaredFields()) {
                if (Modifier.isStatic(f.getModifiers())) {
                    hold(Modifier.isFinal(f.getModifiers()), "static fields are final: " + f);
                } else {
                    fields++;
                }
            }
            hold(fields <= 20, "some twenty fields: " + k);
            hold(k == StripsOfFour.class || Modifier.isStatic(k.getModifiers()), "classes inside are static: " + k);
            hold(!Modifier.isPublic(k.getModifiers()) || k == StripsOfFour.class, "classes inside are not public: " + k);
            for (Method m : k.getDeclaredMethods()) {
                hold(m.getParameterCount() <= 7, "seven parameters: " + m);
                hold(!m.isSynthetic(), "no hidden methods: " + m);
            }
        }
    }

    private static String codeOf(String source) {
        hold(source.chars().allMatch(c -> c == '\n' || c >= 32 && c < 127), "plain signs alone");
        return source.replaceAll("(?s)/\\*.*?\\*/", " ").replaceAll("//[^\n]*", " ");
    }

    private static void words(String code) {
        String[] never = {"throw", "throws", "try", "catch", "finally", "synchronized", "assert", "package", "import",
            "equals", "hashCode", "toString", "Random", "Thread", "var", "double", "float", "[A-Za-z]+Exact"};
        for (String word : never) {
            hold(!Pattern.compile("\\b" + word + "\\b").matcher(code).find(), "no " + word);
        }
        hold(!code.contains("->") && !code.contains("::"), "no lambda, no method reference");
        hold(!code.contains("@"), "no annotations");
        Matcher loops = Pattern.compile("\\b(while|do)\\b").matcher(code);
        hold(!loops.find(), "loops count against a bound");
        Matcher library = Pattern.compile("\\b(System|Math|Integer|Long|Arrays|String|List)\\.(\\w+)").matcher(code);
        Set<String> known = Set.of("System.arraycopy", "Math.max", "Math.min", "Math.abs", "Math.floorMod", "Integer.bitCount",
            "Integer.numberOfTrailingZeros");
        while (library.find()) {
            hold(known.contains(library.group()), "of the library: " + library.group());
        }
        int lines = 0;
        String name = "";
        for (String line : code.split("\n")) {
            boolean begins = line.matches(" {4,8}(\\w.*)?\\w+\\(.*\\) \\{");
            name = begins ? line.trim() : name;
            lines = begins ? 0 : lines + 1;
            hold(lines <= 60, "some sixty lines: " + name);
        }
    }

    private static long allocated() {
        return ((com.sun.management.ThreadMXBean) java.lang.management.ManagementFactory.getThreadMXBean())
            .getThreadAllocatedBytes(Thread.currentThread().getId());
    }

    /** All calls of a run live in one room, so rows are made by the constructor alone. */
    private static void room() {
        allocated();
        long empty = allocated();
        StripsOfFour x = new StripsOfFour();
        long made = allocated();
        hold(made - empty < 60_000, "a new object is small: " + (made - empty) + " bytes");
        int sum = 0;
        for (int letter : new int[] {'B', '0', 'S', '0', '1', 'S', '0', '1', 'P', '3', 'P', '5'}) {
            sum += x.write(letter);
        }
        sum += x.fair() + x.enter(0, 0) + x.enter(1, 1) + x.hat(0);
        long before = allocated();
        for (int i = 0; i < 400; i++) {
            sum += x.minute() + x.stuck() + x.day() + x.tear(i % 8, 1 + i % 3) + x.together(i % 2) + x.orders() + x.orderAt(0);
            sum += x.fault() + x.found(0, 2, 101) + x.forgery(0, i, 1010101) + x.toSit(0, 3020100) + x.between(0, i) + x.most(0, 999);
            sum += x.eyes(0, 0) + (int) x.whose(0, 8, 3, true) + x.open(0, 1, false) + x.keep(i % 2) + x.undo();
            sum += i % 50 == 0 ? x.again(0) : x.about(i % 10);
        }
        long used = allocated() - before;
        hold(used < 20_000, "calls make no objects: " + used + " bytes in " + 400 * 19 + " calls, " + sum);
    }
}
