import java.io.IOException;
import java.lang.reflect.InvocationTargetException;
import java.lang.reflect.Method;
import java.nio.file.Files;
import java.nio.file.Path;
import java.util.ArrayList;
import java.util.Comparator;
import java.util.LinkedHashMap;
import java.util.List;
import java.util.Map;
import java.util.regex.Matcher;
import java.util.regex.Pattern;

/**
 * Runs tests each of which looks after one sentence of the document, which it quotes by Says. A quote that the document
 * doesn't have is a fault, and so is a boundary case that the document names in no quoted sentence.
 */
abstract class Sentences {
    static final int NONE = -1, BAD = -2, STATE = -3, FULL = -4, LACKING = -5;
    static final int NOTHING = -11, CAST = -12, PLACE = -13, SIZE = -14;
    static final long NO = Long.MIN_VALUE;
    static final int MIN = Integer.MIN_VALUE, MAX = Integer.MAX_VALUE;

    private static final Path DOCUMENT = Path.of("../shared/DOC.md");
    /** Words by which the document names a boundary case. */
    private static final Pattern MARKS = Pattern.compile("(?<![\\w-])-\\d+|\\d+ \\.\\. \\d+|\\b(?:at first|at most|at least"
            + "|or more|refused|no such|no more|[Nn]one|[Nn]othing|NONE|BAD|STATE|FULL|NO|NOTHING|CAST|too|else|empty"
            + "|beyond|below|above|ahead|ends|itself|lowest|lesser|least|greatest|first|last|behind|[Ww]ithout|odd|even"
            + "|just|all|most|whatever|does not matter|aren't|isn't|not)\\b");

    private static int wrong = 0;
    private static String running = "";

    static void due(String call, long got, long want) {
        if (got != want) {
            wrong++;
            System.out.println(running + ": " + call + " answered " + got + ", due is " + want);
        }
    }

    static void alike(String call, String got, String want) {
        if (!got.equals(want)) {
            wrong++;
            System.out.println(running + ": " + call + " answered " + got + ", due is " + want);
        }
    }

    /** Runs all tests of a class; the class looks after all headings that begin so. */
    static void runAll(Class<?> tests, String headings) throws IOException {
        Map<String, String> sections = sections();
        List<Method> methods = new ArrayList<>();
        for (Method m : tests.getDeclaredMethods()) {
            if (m.isAnnotationPresent(Says.class)) {
                methods.add(m);
            }
        }
        List<String> order = new ArrayList<>(sections.keySet());
        methods.sort(Comparator.<Method>comparingInt(m -> order.indexOf(m.getAnnotation(Says.class).in()))
                .thenComparing(Method::getName));
        for (Method m : methods) {
            runOne(m, sections);
        }
        running = "the document";
        for (String heading : order) {
            if (heading.startsWith(headings)) {
                lookForUnquoted(heading, sections.get(heading), methods);
            }
        }
        System.out.println(wrong == 0 ? methods.size() + " sentences hold" : wrong + " answers are not as due");
        if (wrong != 0) {
            System.exit(1);
        }
    }

    private static void runOne(Method m, Map<String, String> sections) {
        Says says = m.getAnnotation(Says.class);
        running = says.in() + ", " + m.getName();
        for (String words : says.words()) {
            if (!sections.getOrDefault(says.in(), "").contains(words)) {
                wrong++;
                System.out.println(running + ": the document doesn't say there: " + words);
            }
        }
        try {
            m.setAccessible(true);
            m.invoke(null);
        } catch (IllegalAccessException e) {
            throw new IllegalStateException(e);
        } catch (InvocationTargetException e) {
            wrong++;
            System.out.println(running + ": threw " + e.getCause());
        }
    }

    /** The text under each heading, with single blanks. */
    private static Map<String, String> sections() throws IOException {
        Map<String, String> sections = new LinkedHashMap<>();
        for (String part : Files.readString(DOCUMENT).split("(?m)^## ")) {
            int end = part.indexOf('\n');
            String heading = part.substring(0, end).replaceAll("^(Promise \\d+):.*", "$1").trim();
            sections.put(heading, part.substring(end).replaceAll("\\s+", " "));
        }
        return sections;
    }

    private static void lookForUnquoted(String heading, String text, List<Method> methods) {
        boolean[] quoted = new boolean[text.length()];
        for (Method m : methods) {
            Says says = m.getAnnotation(Says.class);
            for (String words : says.in().equals(heading) ? says.words() : new String[0]) {
                for (int at = text.indexOf(words); at >= 0; at = text.indexOf(words, at + 1)) {
                    for (int i = at; i < at + words.length(); i++) {
                        quoted[i] = true;
                    }
                }
            }
        }
        Matcher marks = MARKS.matcher(text);
        while (marks.find()) {
            if (!quoted[marks.start()] || !quoted[marks.end() - 1]) {
                wrong++;
                System.out.println(heading + ": no test is of '.." + text.substring(Math.max(0, marks.start() - 40), marks.start())
                        + "[" + marks.group() + "]" + text.substring(marks.end(), Math.min(text.length(), marks.end() + 40)) + "..'");
            }
        }
    }

    static void feed(ContourTracer x, String text) {
        for (int i = 0; i < text.length(); i++) {
            x.feed(text.charAt(i));
        }
    }

    static int read(ContourTracer x, String text) {
        feed(x, text);
        return x.read();
    }

    /** What a new object answers to a text with a FAULT, by which nothing must be done. */
    static int fault(String text) {
        ContourTracer x = new ContourTracer();
        int answer = read(x, text);
        due("count(3) behind " + text, x.count(3), 0);
        due("told(0) behind " + text, x.told(0), 6);
        due("told(2) behind " + text, x.told(2), 0);
        due("told(3) behind " + text, x.told(3), 0);
        return answer;
    }

    /** A new object with a set-up, all CLAUSES of which must be done. */
    static ContourTracer made(String text) {
        ContourTracer x = new ContourTracer();
        due("read() of " + text, read(x, text), text.split(";").length);
        return x;
    }

    /** A new object with POINTS of HEIGHT 50 where a picture has #, of HEIGHT 0 else. */
    static ContourTracer ground(String picture) {
        ContourTracer x = new ContourTracer();
        String[] rows = picture.split("/");
        x.size(rows.length, rows[0].length());
        String points = picture.replace("/", "");
        for (int i = 0; i < points.length(); i++) {
            if (points.charAt(i) == '#') {
                x.height(i, 50);
            }
        }
        return x;
    }

    /** PICTURE as one text. */
    static String drawn(ContourTracer x, int level) {
        StringBuilder s = new StringBuilder();
        for (int i = 0; i < 100 && x.picture(level, i) >= 0; i++) {
            s.append((char) x.picture(level, i));
        }
        return s.toString();
    }

    /** WAYS as one text. */
    static String walked(ContourTracer x, int level, int line) {
        StringBuilder s = new StringBuilder();
        for (int i = 0; i < 200 && x.ways(level, line, i) >= 0; i++) {
            s.append((char) x.ways(level, line, i));
        }
        return s.toString();
    }

    /** EDGES of a LINE, with blanks. */
    static String edges(ContourTracer x, int level, int line) {
        StringBuilder s = new StringBuilder();
        for (int i = 0; i < 200 && x.goes(level, line, i) >= 0; i++) {
            s.append(i == 0 ? "" : " ").append(x.goes(level, line, i));
        }
        return s.toString();
    }

    /** HEIGHTS of all POINTS, with blanks. */
    static String heights(ContourTracer x) {
        StringBuilder s = new StringBuilder();
        for (int i = 0; i < 50 && x.of(i) >= 0; i++) {
            s.append(i == 0 ? "" : " ").append(x.of(i));
        }
        return s.toString();
    }

    /** All that is held, as far as a call tells it: to be compared with what is held later. */
    static String held(ContourTracer x) {
        StringBuilder s = new StringBuilder(heights(x));
        for (int what = 0; what < 4; what++) {
            s.append(", ").append(x.told(what)).append(' ').append(x.count(what));
        }
        s.append(", ").append(x.fits(0)).append(' ').append(x.fits(1)).append(' ').append(x.looked());
        for (int what = 0; what < 3; what++) {
            s.append(", ").append(x.after(20, what));
        }
        for (int tape = 0; tape < 6; tape++) {
            s.append(", ").append(x.peek(tape, 0)).append(' ').append(x.peek(tape, 1)).append(' ').append(x.peek(tape, 59));
        }
        return s.toString();
    }
}
