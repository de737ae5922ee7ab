import java.io.IOException;
import java.lang.annotation.ElementType;
import java.lang.annotation.Retention;
import java.lang.annotation.RetentionPolicy;
import java.lang.annotation.Target;
import java.lang.reflect.InvocationTargetException;
import java.lang.reflect.Method;
import java.nio.file.Files;
import java.nio.file.Path;
import java.util.Arrays;
import java.util.Comparator;
import java.util.List;
import java.util.TreeSet;

/**
 * Tests of which each stands for one sentence of the document: it tells the section and the words,
 * and they are looked for there, so that a changed sentence shows which tests are to be read again.
 */
abstract class Sentences {
    static final int INVALID = -1001;
    static final int NOT_POSSIBLE = -1002;
    static final int LIMIT = -1003;
    static final int NOT_FOUND = -1004;
    static final int MIN = Integer.MIN_VALUE;
    static final int MAX = Integer.MAX_VALUE;

    private static final Path DOCUMENT = Path.of("../shared/DOC.md");

    private static String now = "";
    private static int wrong = 0;

    /** The section of the document, by the begin of its heading, and words that stand in it. */
    @Retention(RetentionPolicy.RUNTIME)
    @Target(ElementType.METHOD)
    @interface Says {
        String in();

        String words();
    }

    static void due(String call, int got, int want) {
        if (got != want) {
            fault(call + " answered " + got + ", due is " + want);
        }
    }

    static void same(String what, String got, String want) {
        if (!got.equals(want)) {
            fault(what + " is\n  " + got + "\ndue is\n  " + want);
        }
    }

    private static void fault(String text) {
        wrong++;
        System.out.println(now + ": " + text);
    }

    /** Runs each test of a class, and ends with 1 if a sentence does not hold. */
    static void run(Class<?> tests, String... sections) throws IOException {
        String document = Files.exists(DOCUMENT) ? Files.readString(DOCUMENT) : "";
        Method[] methods = tests.getDeclaredMethods();
        Arrays.sort(methods, Comparator.comparing(Method::getName));
        TreeSet<String> missing = new TreeSet<>(List.of(sections));
        int ran = 0;
        for (Method method : methods) {
            Says says = method.getAnnotation(Says.class);
            if (says != null) {
                now = says.in() + ", \"" + says.words() + "\" (" + method.getName() + ")";
                missing.remove(says.in());
                lookFor(says, document);
                call(method);
                ran++;
            }
        }
        now = tests.getName();
        if (!missing.isEmpty()) {
            fault("no test for " + missing);
        }
        System.out.println(ran + " sentences tested, " + wrong + " faults");
        System.exit(wrong == 0 ? 0 : 1);
    }

    private static void call(Method method) {
        try {
            method.invoke(null);
        } catch (InvocationTargetException thrown) {
            fault("threw " + thrown.getCause());
        } catch (IllegalAccessException thrown) {
            fault("can not be called");
        }
    }

    /** Where the document is not at hand there is nothing to look into. */
    private static void lookFor(Says says, String document) {
        if (!document.isEmpty() && !section(says.in(), document).contains(says.words())) {
            fault("these words do not stand in that section of the document");
        }
    }

    private static String section(String heading, String document) {
        StringBuilder section = new StringBuilder();
        boolean inside = false;
        for (String line : document.split("\n")) {
            if (line.startsWith("#")) {
                String title = line.replaceFirst("^#+ ", "");
                inside = title.equals(heading) || title.startsWith(heading + ":");
            } else if (inside) {
                section.append(line).append('\n');
            }
        }
        return section.toString();
    }
}
