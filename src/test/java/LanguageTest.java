import java.io.IOException;
import java.lang.reflect.Constructor;
import java.lang.reflect.Field;
import java.lang.reflect.Method;
import java.lang.reflect.Modifier;
import java.nio.file.Files;
import java.nio.file.Path;
import java.util.Set;
import java.util.TreeSet;
import java.util.regex.Matcher;
import java.util.regex.Pattern;

/** The face of the class, and those rules of LANGUAGE.md that can be seen without understanding the code. */
public final class LanguageTest {
    private static final String FACE = "grain(int,int,int,int,int)int read(int,int)int change(int,int,int)int empty()int "
        + "set(int,int)int type(int,int)int wipe(int)int fault(int)int pan(int,int)int after(int,int,int)int "
        + "sounds(int,boolean)int stop(int,int)int best()int even(int,int)int front(int,int)int air(int,int)int "
        + "shaken(int,int)int late(int)int sieved(int,int,int)int jar(int,int,int)int length(int,int,int,int)int "
        + "cracked(int,int,int,int,int)long span(int,int,int,int,int)int heard(int,int)int fits(int)int "
        + "sheet(int,int,int)int lose(int)int lay(int,int,int,int)int get(int,int,int)int copy(int,int,int,int,int)int "
        + "write(int,int)int count(int)int digest()long";

    /** Of the classes of the library these members alone stand in rule 4; of Integer, Long and Math its 'like' ones too. */
    private static final Set<String> LIBRARY = Set.of("System.arraycopy", "Arrays.copyOf", "Arrays.copyOfRange", "Arrays.fill",
        "List.of");
    private static final Set<String> NUMBERS = Set.of("Integer", "Long", "Math");

    private LanguageTest() {
    }

    public static void main(String[] args) throws IOException, ReflectiveOperationException {
        face();
        constants();
        names();
        nested();
        String code = withoutRemarks(Files.readString(Path.of("src/main/java/PopPan.java")));
        words(code);
        library(code);
        Check.end();
    }

    private static String told(Method m) {
        StringBuilder s = new StringBuilder(m.getName()).append('(');
        for (Class<?> p : m.getParameterTypes()) {
            s.append(s.charAt(s.length() - 1) == '(' ? "" : ",").append(p.getName());
        }
        return s.append(')').append(m.getReturnType().getName()).toString();
    }

    private static void face() {
        Set<String> due = new TreeSet<>(Set.of(FACE.split(" ")));
        for (Method m : PopPan.class.getDeclaredMethods()) {
            if (!Modifier.isPrivate(m.getModifiers())) {
                Check.holds("the document tells " + told(m), due.remove(told(m)));
                Check.holds("public, not static: " + m, m.getModifiers() == Modifier.PUBLIC);
            }
        }
        Check.holds("missing: " + due, due.isEmpty());
        Check.holds("public and final", PopPan.class.getModifiers() == (Modifier.PUBLIC | Modifier.FINAL));
        Constructor<?>[] all = PopPan.class.getDeclaredConstructors();
        Check.holds("one constructor", all.length == 1 && all[0].getParameterCount() == 0);
    }

    private static void constants() throws ReflectiveOperationException {
        String[] names = {"NONE", "BAD", "NOT", "FULL"};
        for (int i = 0; i < names.length; i++) {
            Field f = PopPan.class.getField(names[i]);
            Check.due(names[i], f.getInt(null), -1 - i);
        }
        Check.due("public fields", PopPan.class.getFields().length, names.length);
        for (Field f : PopPan.class.getDeclaredFields()) {
            Check.holds("private or told: " + f, Modifier.isPrivate(f.getModifiers()) || Modifier.isPublic(f.getModifiers()));
        }
    }

    private static Set<String> publicNames() {
        Set<String> names = new TreeSet<>();
        for (String told : FACE.split(" ")) {
            names.add(told.substring(0, told.indexOf('(')));
        }
        return names;
    }

    private static void names() {
        Set<String> face = publicNames();
        for (Method m : PopPan.class.getDeclaredMethods()) {
            Check.holds("a name of its own: " + m, !Modifier.isPrivate(m.getModifiers()) || !face.contains(m.getName()));
            Check.holds("seven parameters at most: " + m, m.getParameterCount() <= 7);
        }
    }

    private static void nested() {
        Class<?>[] all = PopPan.class.getDeclaredClasses();
        Check.holds("some twelve classes", all.length < 12);
        for (Class<?> c : all) {
            Check.holds("static and not public: " + c,
                Modifier.isStatic(c.getModifiers()) && !Modifier.isPublic(c.getModifiers()));
            int fields = 0;
            for (Field f : c.getDeclaredFields()) {
                boolean still = Modifier.isStatic(f.getModifiers());
                fields += still ? 0 : 1;
                Check.holds("static is final: " + f, !still || Modifier.isFinal(f.getModifiers()));
            }
            Check.holds("some twenty fields: " + c, fields <= 20);
        }
    }

    private static String withoutRemarks(String source) {
        return source.replaceAll("(?s)/\\*.*?\\*/", " ").replaceAll("//[^\n]*", " ").replaceAll("'.'", " ");
    }

    /** Rule 4: "The library: only what stands here"; of Integer, Long and Math "the static functions", no fields. */
    private static void library(String code) {
        Matcher uses = Pattern.compile("\\b([A-Z]\\w*[a-z]\\w*)\\.(\\w+)\\s*(\\(?)").matcher(code);
        while (uses.find()) {
            String use = uses.group(1) + "." + uses.group(2);
            boolean isFunction = uses.group(3).equals("(");
            Check.holds("stands in rule 4: " + use,
                isFunction && (LIBRARY.contains(use) || NUMBERS.contains(uses.group(1))));
        }
    }

    private static void words(String code) {
        String[] never = {"\\bthrow\\b", "\\bthrows\\b", "\\btry\\b", "\\bcatch\\b", "\\bsynchronized\\b", "\\bassert\\b",
            "->", "::", "\\bstatic\\s*\\{", "\\bnative\\b", "\\bpackage\\b", "Exact\\b", "\\bprotected\\b", "Exception"};
        for (String word : never) {
            Check.holds("not in the code: " + word, !Pattern.compile(word).matcher(code).find());
        }
        Matcher imports = Pattern.compile("\\bimport\\s+([\\w.]+)").matcher(code);
        while (imports.find()) {
            Check.holds("may be imported: " + imports.group(1), imports.group(1).equals("java.util.Arrays"));
        }
        Matcher methods = Pattern.compile("(?m)^( {4}| {8})[a-zA-Z][^\n;=]*\\{\n(?:(?!\\1\\})[^\n]*\n)*?\\1\\}").matcher(code);
        while (methods.find()) {
            String method = methods.group();
            long lines = method.lines().count();
            boolean isClass = method.contains(" class ");
            Check.holds("short: " + method.lines().findFirst().orElse(""), isClass || lines <= 60);
        }
    }
}
