import java.io.IOException;
import java.lang.reflect.Constructor;
import java.lang.reflect.Field;
import java.lang.reflect.Method;
import java.lang.reflect.Modifier;
import java.nio.file.Files;
import java.nio.file.Path;
import java.util.HashSet;
import java.util.List;
import java.util.Set;
import java.util.TreeSet;
import java.util.regex.Matcher;
import java.util.regex.Pattern;

/** The face of the class is that of the document, and its source keeps to those of LANGUAGE.md's rules that can be seen from outside. */
public final class FaceTest {
    private static final Path SOURCE = Path.of("src/main/java/ContourTracer.java");
    private static final String[] CALLS = {
        "int size(int,int)", "int height(int,int)", "int rule(int)", "int feed(int)", "int read()", "int of(int)",
        "int told(int)", "int at(int,int)", "int square(int,int,int)", "int edge(int,int)", "int line(int,int,int)",
        "int goes(int,int,int)", "int holds(int,int,int)", "int ways(int,int,int)", "int picture(int,int)",
        "int land(int,int)", "int landOf(int,int,int)", "int pass(int,int)", "int stands(int)", "int tree(int,int)",
        "int between(int,int)", "int see(int,int)", "int fits(int)", "long odds(int,int)", "long mean(int)",
        "int event(int,int)", "int after(int,int)", "int book(int,int)", "int looked()", "int judge(int,int)",
        "int image()", "int undo()", "int count(int)", "int tape(int,int,int)", "int item(int,int,long)",
        "long peek(int,int)", "int shift(int,int,int,int,int)"};

    private static int wrong = 0;

    public static void main(String[] args) throws IOException {
        face();
        constants();
        inside();
        source();
        System.out.println(wrong == 0 ? "the face is as due" : wrong + " things are not as due");
        if (wrong != 0) {
            System.exit(1);
        }
    }

    private static void must(boolean so, String what) {
        if (!so) {
            wrong++;
            System.out.println("not so: " + what);
        }
    }

    private static void face() {
        Class<?> c = ContourTracer.class;
        must(Modifier.isPublic(c.getModifiers()) && Modifier.isFinal(c.getModifiers()), "the class is public and final");
        Set<String> due = new TreeSet<>(List.of(CALLS));
        Set<String> got = new TreeSet<>();
        Set<String> names = new HashSet<>();
        for (Method m : c.getDeclaredMethods()) {
            if (Modifier.isPublic(m.getModifiers())) {
                StringBuilder s = new StringBuilder(m.getReturnType().getName() + " " + m.getName() + "(");
                for (Class<?> p : m.getParameterTypes()) {
                    s.append(s.charAt(s.length() - 1) == '(' ? "" : ",").append(p.getName());
                }
                got.add(s.append(")").toString());
                names.add(m.getName());
                must(!Modifier.isStatic(m.getModifiers()), m + " is of an object");
            }
        }
        must(got.equals(due), "public methods are those of the document: " + got);
        for (Method m : c.getDeclaredMethods()) {
            if (!Modifier.isPublic(m.getModifiers()) && !m.isSynthetic()) {
                must(Modifier.isPrivate(m.getModifiers()), m + " is private");
                must(!names.contains(m.getName()), m + " bears no public name");
            }
        }
        Constructor<?>[] made = c.getDeclaredConstructors();
        must(made.length == 1 && Modifier.isPublic(made[0].getModifiers()) && made[0].getParameterCount() == 0,
                "there is one constructor, public, without parameters");
    }

    private static void constants() {
        must(ContourTracer.NONE == -1, "NONE");
        must(ContourTracer.BAD == -2, "BAD");
        must(ContourTracer.STATE == -3, "STATE");
        must(ContourTracer.FULL == -4, "FULL");
        must(ContourTracer.NO == Long.MIN_VALUE, "NO");
        Set<String> due = new TreeSet<>(List.of("NONE", "BAD", "STATE", "FULL", "NO"));
        Set<String> got = new TreeSet<>();
        for (Field f : ContourTracer.class.getDeclaredFields()) {
            if (!Modifier.isPrivate(f.getModifiers()) && !f.isSynthetic()) {
                got.add(f.getName());
                must(Modifier.isPublic(f.getModifiers()) && Modifier.isStatic(f.getModifiers())
                        && Modifier.isFinal(f.getModifiers()), f + " is a public constant");
            }
        }
        must(got.equals(due), "constants are those of the document: " + got);
    }

    private static void inside() {
        Class<?>[] all = ContourTracer.class.getDeclaredClasses();
        must(all.length <= 11, "at most twelve classes");
        for (Class<?> c : all) {
            must(Modifier.isStatic(c.getModifiers()), c + " is static");
            must(!Modifier.isPublic(c.getModifiers()) && !Modifier.isProtected(c.getModifiers()), c + " is not of the face");
            fields(c);
        }
        fields(ContourTracer.class);
    }

    private static void fields(Class<?> c) {
        int own = 0;
        for (Field f : c.getDeclaredFields()) {
            if (Modifier.isStatic(f.getModifiers())) {
                must(Modifier.isFinal(f.getModifiers()), f + " is final");
            } else {
                own++;
            }
        }
        must(own <= 20, c + " has at most twenty fields");
        for (Method m : c.getDeclaredMethods()) {
            must(m.getParameterCount() <= 7, m + " has at most seven parameters");
        }
    }

    private static void source() throws IOException {
        String raw = Files.readString(SOURCE);
        for (int i = 0; i < raw.length(); i++) {
            must(raw.charAt(i) < 128, "sign " + i + " is plain");
        }
        String code = raw.replaceAll("(?s)/\\*.*?\\*/", "").replaceAll("//[^\n]*", "")
                .replaceAll("\"[^\"\n]*\"", "TEXT").replaceAll("'[^'\n]'", "SIGN");
        for (String word : new String[] {"throw", "throws", "try", "catch", "finally", "synchronized", "assert", "package",
            "volatile", "double", "float", "hashCode", "toString", "equals", "Object", "var", "yield"}) {
            must(!Pattern.compile("\\b" + word + "\\b").matcher(code).find(), "no " + word);
        }
        must(!code.contains("->") && !code.contains("::"), "no lambda, no method reference");
        must(!code.contains("static {"), "no static initialiser block");
        Matcher imported = Pattern.compile("\\bimport\\s+([^;]*);").matcher(code);
        while (imported.find()) {
            must(imported.group(1).equals("java.util.Arrays"), "import of " + imported.group(1));
        }
        methods(code);
    }

    /** Methods stay short, and only constructors make something: all calls of a run live in one room. */
    private static void methods(String code) {
        Pattern head = Pattern.compile("^( {4}| {8})(\\w[\\w\\[\\] ]*)\\(.*\\) \\{$");
        String name = "";
        String indent = "";
        int began = 0;
        String[] lines = code.split("\n");
        for (int i = 0; i < lines.length; i++) {
            Matcher m = head.matcher(lines[i]);
            if (name.isEmpty() && m.matches()) {
                name = m.group(2).trim();
                indent = m.group(1);
                began = i;
            } else if (!name.isEmpty() && lines[i].equals(indent + "}")) {
                must(i - began < 60, name + " is short");
                name = "";
            }
            boolean constructs = name.matches("(public )?[A-Z]\\w*");
            must(!lines[i].contains(" new ") || constructs, "only a constructor makes something: " + lines[i].trim());
        }
    }
}
