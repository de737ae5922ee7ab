import java.io.IOException;
import java.lang.reflect.Method;
import java.nio.file.Files;
import java.nio.file.Path;
import java.util.List;
import java.util.regex.Matcher;
import java.util.regex.Pattern;

/** README.md's first example: behind each call stands the number that it answers. */
public final class TornPagesReadme {
    private static final Path README = Path.of("README.md");
    private static final Pattern CALL = Pattern.compile("pages\\.(\\w+)\\((.*)\\); +// (-?\\d+)\\b.*");
    private static final int FEWEST_CALLS = 10;

    public static void main(String[] args) throws IOException, ReflectiveOperationException {
        List<String> lines = Files.readAllLines(README);
        int begin = lines.indexOf("```java") + 1;
        TornPages pages = new TornPages();
        int wrong = 0;
        int calls = 0;
        for (int i = begin; i < lines.size() && !lines.get(i).equals("```"); i++) {
            Matcher call = CALL.matcher(lines.get(i));
            if (call.matches()) {
                calls++;
                int got = answer(pages, call.group(1), call.group(2));
                if (got != Integer.parseInt(call.group(3))) {
                    wrong++;
                    System.out.println(lines.get(i) + " answered " + got);
                }
            }
        }
        System.out.println(calls + " calls of README.md, " + wrong + " wrong");
        if (wrong != 0 || calls < FEWEST_CALLS) {
            System.exit(1);
        }
    }

    private static int answer(TornPages pages, String name, String told)
            throws ReflectiveOperationException {
        String[] numbers = told.isEmpty() ? new String[0] : told.split(", ");
        Object[] arguments = new Object[numbers.length];
        Class<?>[] types = new Class<?>[numbers.length];
        for (int i = 0; i < numbers.length; i++) {
            arguments[i] = Integer.valueOf(numbers[i]);
            types[i] = int.class;
        }
        Method method = TornPages.class.getMethod(name, types);
        return (Integer) method.invoke(pages, arguments);
    }
}
