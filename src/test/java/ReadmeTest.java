import java.io.IOException;
import java.lang.reflect.InvocationTargetException;
import java.lang.reflect.Method;
import java.lang.reflect.Modifier;
import java.nio.file.Files;
import java.nio.file.Path;
import java.util.List;
import java.util.regex.Matcher;
import java.util.regex.Pattern;
import java.util.stream.Collectors;
import java.util.stream.Stream;

/** README.md's example answers what stands behind its calls; the page names all calls and all tests. */
public final class ReadmeTest {
    private static final Pattern CALL = Pattern.compile("desk\\.(\\w+)\\(([^)]*)\\); *// ([^:]*)(:.*)?");
    private static int wrong = 0;

    public static void main(String[] args) throws IOException, ReflectiveOperationException {
        String page = Files.readString(Path.of("README.md"));
        int calls = example(page);
        names(page);
        System.out.println(calls + " calls of the example, " + wrong + " faults");
        if (wrong != 0 || calls == 0) {
            System.exit(1);
        }
    }

    private static void isTrue(String what, boolean holds) {
        if (!holds) {
            wrong++;
            System.out.println("README.md: " + what);
        }
    }

    private static int example(String page) throws ReflectiveOperationException {
        TrialDesk desk = new TrialDesk();
        int calls = 0;
        for (String line : page.lines().filter(l -> l.startsWith("desk.")).collect(Collectors.toList())) {
            Matcher call = CALL.matcher(line);
            boolean isCall = call.matches();
            isTrue("a call with its answer: " + line, isCall);
            if (isCall) {
                String answer = answer(desk, call.group(1), call.group(2));
                isTrue(line + " answered " + answer, answer.equals(call.group(3)));
                calls++;
            }
        }
        return calls;
    }

    private static String answer(TrialDesk desk, String name, String numbers)
            throws IllegalAccessException, InvocationTargetException {
        Object[] given = numbers.isEmpty() ? new Object[0]
            : Stream.of(numbers.split(", ")).map(Integer::valueOf).toArray();
        for (Method m : TrialDesk.class.getDeclaredMethods()) {
            if (m.getName().equals(name) && m.getParameterCount() == given.length) {
                return String.valueOf(m.invoke(desk, given));
            }
        }
        return "no such call";
    }

    private static void names(String page) throws IOException {
        for (Method m : TrialDesk.class.getDeclaredMethods()) {
            if (Modifier.isPublic(m.getModifiers())) {
                int comma = Math.max(m.getParameterCount() - 1, 0);
                String row = "(?m)^\\| `" + m.getName() + "\\([^),]*(, [^),]*){" + comma + "}\\)` \\|";
                isTrue("names " + m.getName(), Pattern.compile(row).matcher(page).find());
            }
        }
        try (Stream<Path> tests = Files.list(Path.of("src/test/java"))) {
            List<Path> all = tests.collect(Collectors.toList());
            for (Path test : all) {
                isTrue("names " + test.getFileName(), page.contains(test.getFileName().toString()));
            }
        }
    }
}
