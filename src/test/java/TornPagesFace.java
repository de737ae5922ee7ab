import java.io.IOException;
import java.lang.reflect.Constructor;
import java.lang.reflect.Field;
import java.lang.reflect.Method;
import java.lang.reflect.Modifier;
import java.nio.file.Files;
import java.nio.file.Path;
import java.util.Set;
import java.util.TreeSet;
import java.util.regex.Matcher;
import java.util.regex.Pattern;

/** The public face as the document tells it, what LANGUAGE.md forbids, and extreme arguments. */
public final class TornPagesFace {
    private static final Path SOURCE = Path.of("src/main/java/TornPages.java");
    private static final String[] CALLS = {
        "reset 2", "addScrap 5", "add 0", "removeScrap 1", "scrap 2", "edge 4", "undo 0", "count 1",
        "lay 3", "force 3", "lift 1", "turn 2", "at 1", "reason 2", "ways 2", "bestFor 1", "fill 0",
        "member 2", "canFill 0", "type 1", "clearText 0", "fault 0"};
    private static final String[] FORBIDDEN = {
        "\\b(throw|throws|try|catch|synchronized|assert|volatile|transient|native)\\b",
        "->", "::", "\\bObject\\b", "\\bString\\s*\\.", "\\bSystem\\.(?!arraycopy\\b)",
        "Exact\\b", "\\b(equals|hashCode|toString)\\s*\\(", "^package\\b", "\\bstatic\\s*\\{",
        "^import (?!java\\.util\\.(Arrays|ArrayList|List|Iterator);)"};

    private static int wrong = 0;

    private static void check(boolean holds, String what) {
        if (!holds) {
            wrong++;
            System.out.println("does not hold: " + what);
        }
    }

    public static void main(String[] args) throws IOException, ReflectiveOperationException {
        methods();
        constantsAndConstructor();
        classesInside();
        text();
        extremeArguments();
        System.out.println(wrong == 0 ? "the face is as told" : wrong + " faults of the face");
        if (wrong != 0) {
            System.exit(1);
        }
    }

    private static void methods() {
        Set<String> due = new TreeSet<>(Set.of(CALLS));
        Set<String> found = new TreeSet<>();
        Set<String> names = names();
        for (Method method : TornPages.class.getDeclaredMethods()) {
            int modifiers = method.getModifiers();
            if (Modifier.isPrivate(modifiers)) {
                check(!names.contains(method.getName()), "no private " + method.getName());
                continue;
            }
            check(Modifier.isPublic(modifiers) && !Modifier.isStatic(modifiers)
                    && method.getReturnType() == int.class, method + " is of the face");
            for (Class<?> type : method.getParameterTypes()) {
                check(type == int.class, method + " takes numbers");
            }
            found.add(method.getName() + " " + method.getParameterCount());
        }
        check(found.equals(due), "the methods are " + due + ", not " + found);
    }

    private static Set<String> names() {
        Set<String> names = new TreeSet<>();
        for (String call : CALLS) {
            names.add(call.split(" ")[0]);
        }
        return names;
    }

    private static void constantsAndConstructor() {
        Set<String> constants = new TreeSet<>();
        for (Field field : TornPages.class.getDeclaredFields()) {
            int modifiers = field.getModifiers();
            if (!Modifier.isPrivate(modifiers)) {
                check(Modifier.isPublic(modifiers) && Modifier.isStatic(modifiers)
                        && Modifier.isFinal(modifiers), field + " is a constant");
                constants.add(field.getName());
            }
        }
        check(constants.equals(new TreeSet<>(Set.of("INVALID_ARGUMENT", "NOT_POSSIBLE",
                "LIMIT_REACHED", "NOT_FOUND"))), "the constants, not " + constants);
        Constructor<?>[] constructors = TornPages.class.getDeclaredConstructors();
        check(constructors.length == 1 && constructors[0].getParameterCount() == 0
                && Modifier.isPublic(constructors[0].getModifiers()), "one public constructor");
        check(Modifier.isFinal(TornPages.class.getModifiers()), "the class is final");
    }

    private static void classesInside() {
        Class<?>[] inside = TornPages.class.getDeclaredClasses();
        check(inside.length <= 11, "at most some twelve classes");
        for (Class<?> type : inside) {
            check(Modifier.isStatic(type.getModifiers()), type + " is static");
            check(!Modifier.isPublic(type.getModifiers()), type + " is not public");
            check(type.getDeclaredClasses().length == 0, type + " has no classes inside");
            for (Method method : type.getDeclaredMethods()) {
                check(!Modifier.isPrivate(method.getModifiers())
                        || !names().contains(method.getName()), "no private " + method);
            }
            for (Field field : type.getDeclaredFields()) {
                check(!Modifier.isStatic(field.getModifiers())
                        || Modifier.isFinal(field.getModifiers()), field + " is final if static");
            }
        }
    }

    private static void text() throws IOException {
        String source = Files.readString(SOURCE);
        String code = Pattern.compile("/\\*.*?\\*/|//[^\n]*", Pattern.DOTALL)
                .matcher(source).replaceAll("");
        for (String forbidden : FORBIDDEN) {
            Matcher matcher = Pattern.compile(forbidden, Pattern.MULTILINE).matcher(code);
            check(!matcher.find(), "nothing like " + forbidden + " in the source");
        }
        int begin = 0;
        String[] lines = source.split("\n");
        for (int line = 0; line < lines.length; line++) {
            if (lines[line].isBlank()) {
                begin = line;
            }
            check(line - begin <= 60, "the piece before line " + (line + 1) + " is short");
        }
    }

    /** Whatever stands for an argument: each call answers, and never with anything but a number. */
    private static void extremeArguments() throws ReflectiveOperationException {
        int[] extremes = {Integer.MIN_VALUE, -1, 0, 1, 11, Integer.MAX_VALUE};
        for (Method method : TornPages.class.getDeclaredMethods()) {
            if (!Modifier.isPublic(method.getModifiers())) {
                continue;
            }
            int count = method.getParameterCount();
            int all = (int) Math.pow(extremes.length, count);
            for (int number = 0; number < all; number++) {
                Object[] arguments = new Object[count];
                int rest = number;
                for (int i = 0; i < count; i++) {
                    arguments[i] = extremes[rest % extremes.length];
                    rest /= extremes.length;
                }
                method.invoke(new TornPages(), arguments);
                method.invoke(full(), arguments);
            }
        }
    }

    private static TornPages full() {
        TornPages x = new TornPages();
        for (int scrap = 0; scrap < 12; scrap++) {
            x.addScrap(-1, 444, -1, 555, scrap % 2);
            x.force(scrap, 15 - scrap, scrap % 8);
        }
        for (int length = 0; length < 60; length++) {
            x.type('0');
        }
        return x;
    }
}
