import java.io.IOException;
import java.lang.reflect.InvocationTargetException;
import java.lang.reflect.Method;
import java.lang.reflect.Modifier;
import java.nio.file.Files;
import java.nio.file.Path;
import java.util.HashMap;
import java.util.Map;
import java.util.Set;
import java.util.TreeSet;
import java.util.regex.Matcher;
import java.util.regex.Pattern;

/** The examples of README.md answer what stands behind them, and leave no call out. */
public final class ReadmeTest {
    private static final Path README = Path.of("README.md");
    private static final Pattern BLOCK = Pattern.compile("(?s)```java\n(.*?)```");
    private static final Pattern MADE = Pattern.compile("ContourTracer x = new ContourTracer\\(\\);");
    private static final Pattern FED = Pattern.compile("for \\(char sign : \"([^\"]*)\"\\.toCharArray\\(\\)\\) x\\.feed\\(sign\\);");
    private static final Pattern CALL = Pattern.compile("x\\.(\\w+)\\(([^)]*)\\); *// (-?\\d+)(?:: .*)?");

    private static int wrong = 0;

    public static void main(String[] args) throws IOException, IllegalAccessException {
        Map<String, Method> calls = new HashMap<>();
        for (Method m : ContourTracer.class.getDeclaredMethods()) {
            if (Modifier.isPublic(m.getModifiers())) {
                calls.put(m.getName(), m);
            }
        }
        Set<String> missing = new TreeSet<>(calls.keySet());
        Matcher block = BLOCK.matcher(Files.readString(README));
        while (block.find()) {
            ContourTracer x = null;
            for (String line : block.group(1).split("\n")) {
                x = done(line, x, calls, missing);
            }
        }
        if (!missing.isEmpty()) {
            wrong++;
            System.out.println("README.md has no example of " + missing);
        }
        System.out.println(wrong == 0 ? "the examples hold" : wrong + " examples do not hold");
        if (wrong != 0) {
            System.exit(1);
        }
    }

    /** Does a line of an example; the object with which the next one goes on. */
    private static ContourTracer done(String line, ContourTracer x, Map<String, Method> calls, Set<String> missing)
            throws IllegalAccessException {
        Matcher fed = FED.matcher(line);
        Matcher call = CALL.matcher(line);
        if (MADE.matcher(line).matches()) {
            return new ContourTracer();
        }
        if (x != null && fed.matches()) {
            for (char sign : fed.group(1).toCharArray()) {
                x.feed(sign);
            }
            missing.remove("feed");
        } else if (x != null && call.matches() && calls.containsKey(call.group(1))) {
            missing.remove(call.group(1));
            long got = answer(x, calls.get(call.group(1)), call.group(2));
            if (got != Long.parseLong(call.group(3))) {
                wrong++;
                System.out.println("README.md: " + line + " .. it answers " + got);
            }
        } else {
            wrong++;
            System.out.println("README.md: this is no example: " + line);
        }
        return x;
    }

    private static long answer(ContourTracer x, Method call, String told) throws IllegalAccessException {
        String[] words = told.isEmpty() ? new String[0] : told.split(", ");
        Class<?>[] types = call.getParameterTypes();
        if (words.length != types.length) {
            throw new IllegalStateException(call.getName() + " takes not so many numbers: " + told);
        }
        Object[] given = new Object[words.length];
        for (int i = 0; i < words.length; i++) {
            if (types[i] == long.class) {
                given[i] = Long.valueOf(words[i]);
            } else {
                given[i] = Integer.valueOf(words[i]);
            }
        }
        try {
            return ((Number) call.invoke(x, given)).longValue();
        } catch (InvocationTargetException e) {
            throw new IllegalStateException(call.getName() + " threw", e.getCause());
        }
    }
}
