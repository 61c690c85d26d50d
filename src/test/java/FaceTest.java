import java.io.IOException;
import java.lang.reflect.Constructor;
import java.lang.reflect.Field;
import java.lang.reflect.Method;
import java.lang.reflect.Modifier;
import java.nio.file.Files;
import java.nio.file.Path;
import java.util.HashMap;
import java.util.HashSet;
import java.util.List;
import java.util.Map;
import java.util.Set;
import java.util.TreeSet;
import java.util.regex.Matcher;
import java.util.regex.Pattern;

/** The face of the class is that of the document, and its source keeps to those of LANGUAGE.md's rules that can be seen from outside. */
public final class FaceTest {
    private static final Path SOURCE = Path.of("src/main/java/ContourTracer.java");
    private static final String[] CALLS = {
        "int size(int,int)", "int height(int,int)", "int rule(int)", "int feed(int)", "int read()", "int of(int)",
        "int told(int)", "int at(int,int)", "int square(int,int,int)", "int edge(int,int)", "int line(int,int,int)",
        "int goes(int,int,int)", "int holds(int,int,int)", "int ways(int,int,int)", "int picture(int,int)",
        "int land(int,int)", "int landOf(int,int,int)", "int pass(int,int)", "int stands(int)", "int tree(int,int)",
        "int between(int,int)", "int see(int,int)", "int fits(int)", "long odds(int,int)", "long mean(int)",
        "int event(int,int)", "int after(int,int)", "int book(int,int)", "int looked()", "int judge(int,int)",
        "int image()", "int undo()", "int count(int)", "int tape(int,int,int)", "int item(int,int,long)",
        "long peek(int,int)", "int shift(int,int,int,int,int)"};

    /** The line with which a method or a constructor begins. */
    private static final Pattern HEAD = Pattern.compile("^( {4}| {8})(?!(?:if|for|while|switch) )(\\w[\\w\\[\\] ]*)\\(.*\\) \\{$");

    private static int wrong = 0;

    public static void main(String[] args) throws IOException {
        face();
        constants();
        inside();
        source();
        System.out.println(wrong == 0 ? "the face is as due" : wrong + " things are not as due");
        if (wrong != 0) {
            System.exit(1);
        }
    }

    private static void must(boolean so, String what) {
        if (!so) {
            wrong++;
            System.out.println("not so: " + what);
        }
    }

    private static void face() {
        Class<?> c = ContourTracer.class;
        must(Modifier.isPublic(c.getModifiers()) && Modifier.isFinal(c.getModifiers()), "the class is public and final");
        Set<String> due = new TreeSet<>(List.of(CALLS));
        Set<String> got = new TreeSet<>();
        Set<String> names = new HashSet<>();
        for (Method m : c.getDeclaredMethods()) {
            if (Modifier.isPublic(m.getModifiers())) {
                StringBuilder s = new StringBuilder(m.getReturnType().getName() + " " + m.getName() + "(");
                for (Class<?> p : m.getParameterTypes()) {
                    s.append(s.charAt(s.length() - 1) == '(' ? "" : ",").append(p.getName());
                }
                got.add(s.append(")").toString());
                names.add(m.getName());
                must(!Modifier.isStatic(m.getModifiers()), m + " is of an object");
            }
        }
        must(got.equals(due), "public methods are those of the document: " + got);
        for (Method m : c.getDeclaredMethods()) {
            if (!Modifier.isPublic(m.getModifiers()) && !m.isSynthetic()) {
                must(Modifier.isPrivate(m.getModifiers()), m + " is private");
                must(!names.contains(m.getName()), m + " bears no public name");
            }
        }
        Constructor<?>[] made = c.getDeclaredConstructors();
        must(made.length == 1 && Modifier.isPublic(made[0].getModifiers()) && made[0].getParameterCount() == 0,
                "there is one constructor, public, without parameters");
    }

    private static void constants() {
        must(ContourTracer.NONE == -1, "NONE");
        must(ContourTracer.BAD == -2, "BAD");
        must(ContourTracer.STATE == -3, "STATE");
        must(ContourTracer.FULL == -4, "FULL");
        must(ContourTracer.NO == Long.MIN_VALUE, "NO");
        Set<String> due = new TreeSet<>(List.of("NONE", "BAD", "STATE", "FULL", "NO"));
        Set<String> got = new TreeSet<>();
        for (Field f : ContourTracer.class.getDeclaredFields()) {
            if (!Modifier.isPrivate(f.getModifiers()) && !f.isSynthetic()) {
                got.add(f.getName());
                must(Modifier.isPublic(f.getModifiers()) && Modifier.isStatic(f.getModifiers())
                        && Modifier.isFinal(f.getModifiers()), f + " is a public constant");
            }
        }
        must(got.equals(due), "constants are those of the document: " + got);
    }

    private static void inside() {
        Class<?>[] all = ContourTracer.class.getDeclaredClasses();
        must(all.length <= 11, "at most twelve classes");
        for (Class<?> c : all) {
            must(Modifier.isStatic(c.getModifiers()), c + " is static");
            must(!Modifier.isPublic(c.getModifiers()) && !Modifier.isProtected(c.getModifiers()), c + " is not of the face");
            fields(c);
        }
        fields(ContourTracer.class);
    }

    private static void fields(Class<?> c) {
        int own = 0;
        for (Field f : c.getDeclaredFields()) {
            if (Modifier.isStatic(f.getModifiers())) {
                must(Modifier.isFinal(f.getModifiers()), f + " is final");
            } else {
                own++;
            }
        }
        must(own <= 20, c + " has at most twenty fields");
        for (Method m : c.getDeclaredMethods()) {
            must(m.getParameterCount() <= 7, m + " has at most seven parameters");
        }
    }

    private static void source() throws IOException {
        String raw = Files.readString(SOURCE);
        for (int i = 0; i < raw.length(); i++) {
            must(raw.charAt(i) < 128, "sign " + i + " is plain");
        }
        String code = raw.replaceAll("(?s)/\\*.*?\\*/", "").replaceAll("//[^\n]*", "")
                .replaceAll("\"[^\"\n]*\"", "TEXT").replaceAll("'[^'\n]'", "SIGN");
        for (String word : new String[] {"throw", "throws", "try", "catch", "finally", "synchronized", "assert", "package",
            "volatile", "double", "float", "hashCode", "toString", "equals", "Object", "var", "yield"}) {
            must(!Pattern.compile("\\b" + word + "\\b").matcher(code).find(), "no " + word);
        }
        must(!code.contains("->") && !code.contains("::"), "no lambda, no method reference");
        must(!code.contains("static {"), "no static initialiser block");
        Matcher imported = Pattern.compile("\\bimport\\s+([^;]*);").matcher(code);
        while (imported.find()) {
            must(imported.group(1).equals("java.util.Arrays"), "import of " + imported.group(1));
        }
        library(code);
        methods(code);
        depths(code);
    }

    /** What is named with a point behind a class is of the program's own classes, or one of a few things of the library. */
    private static void library(String code) {
        Set<String> allowed = Set.of("Arrays.fill", "System.arraycopy", "Math.abs", "Math.max", "Math.min", "Long.bitCount",
                "Long.MIN_VALUE");
        Set<String> own = new HashSet<>();
        for (Class<?> c : ContourTracer.class.getDeclaredClasses()) {
            own.add(c.getSimpleName());
        }
        Matcher named = Pattern.compile("\\b([A-Z]\\w*)\\.(\\w+)").matcher(code);
        while (named.find()) {
            must(own.contains(named.group(1)) || allowed.contains(named.group()), "the library has " + named.group());
        }
    }

    /** Methods stay short, and only constructors make something: all calls of a run live in one room. */
    private static void methods(String code) {
        String name = "";
        String indent = "";
        int began = 0;
        String[] lines = code.split("\n");
        for (int i = 0; i < lines.length; i++) {
            Matcher m = HEAD.matcher(lines[i]);
            if (name.isEmpty() && m.matches()) {
                name = m.group(2).trim();
                indent = m.group(1);
                began = i;
            } else if (!name.isEmpty() && lines[i].equals(indent + "}")) {
                must(i - began < 60, name + " is short");
                name = "";
            }
            boolean constructs = name.matches("(public )?[A-Z]\\w*");
            must(!lines[i].contains(" new ") || constructs, "only a constructor makes something: " + lines[i].trim());
        }
    }

    /**
     * No method comes to be called by itself, and calls go at most eight deep. Methods of one name are taken for one,
     * so chains are never longer than they are seen here.
     */
    private static void depths(String code) {
        Map<String, Set<String>> calls = new HashMap<>();
        String name = "";
        for (String line : code.split("\n")) {
            Matcher m = HEAD.matcher(line);
            if (m.matches()) {
                String[] words = m.group(2).trim().split(" ");
                name = words[words.length - 1];
                calls.putIfAbsent(name, new TreeSet<>());
            } else if (!name.isEmpty()) {
                Matcher called = Pattern.compile("\\b(\\w+)\\(").matcher(line);
                while (called.find()) {
                    calls.get(name).add(called.group(1));
                }
            }
        }
        must(calls.size() > 100, "methods are seen");
        for (String each : calls.keySet()) {
            must(depth(each, calls, 1) <= 8, "calls from " + each + " on go at most eight deep");
        }
    }

    private static int depth(String name, Map<String, Set<String>> calls, int open) {
        int depth = open;
        for (String called : open > 8 ? Set.<String>of() : calls.get(name)) {
            if (calls.containsKey(called)) {
                depth = Math.max(depth, depth(called, calls, open + 1));
            }
        }
        return depth;
    }
}
