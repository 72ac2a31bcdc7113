import java.lang.reflect.Constructor;
import java.lang.reflect.Field;
import java.lang.reflect.Method;
import java.lang.reflect.Modifier;
import java.nio.file.Files;
import java.nio.file.Path;
import java.util.Set;
import java.util.TreeSet;
import java.util.regex.Matcher;
import java.util.regex.Pattern;

/** What can be looked at in the file of the rules in LANGUAGE.md, and the face. */
public final class LanguageTest {
    private static final String FACE = "at(int,int) cost(int) count(int) descents() due() fault() inversions() "
            + "lay() less(int,int) next() place(int) put(int,int) rule(int,int) run(int,int) "
            + "seek(int,int,int,int) start() step(int) waiting() wipe() would(int,int) write(int)";
    private static final String RULED_OUT = "\\b(throw|throws|try|catch|synchronized|assert|protected|package|"
            + "Object|System\\.(?!arraycopy)\\w+|\\w+Exact)\\b|->|::|@";

    private static final Set<String> STATIC_TYPES = Set.of(
            "int", "long", "boolean", "char", "String", "int[]", "long[]", "char[]", "byte[]");

    private static int wrong = 0;

    public static void main(String[] args) throws Exception {
        face();
        nested();
        source(Files.readString(Path.of("src/main/java/RunSorter.java")));
        System.out.println(wrong == 0 ? "the rules looked at are kept" : wrong + " rules are not kept");
        if (wrong != 0) {
            System.exit(1);
        }
    }

    private static void say(String what) {
        wrong++;
        System.out.println(what);
    }

    private static void face() {
        Set<String> methods = new TreeSet<>();
        for (Method m : RunSorter.class.getDeclaredMethods()) {
            if (!Modifier.isPrivate(m.getModifiers())) {
                StringBuilder types = new StringBuilder();
                for (Class<?> type : m.getParameterTypes()) {
                    types.append(types.length() == 0 ? "" : ",").append(type.getSimpleName());
                }
                methods.add(m.getName() + "(" + types + ")");
                if (m.getReturnType() != int.class || m.getModifiers() != Modifier.PUBLIC) {
                    say("not a plain public int: " + m);
                }
            }
        }
        if (!String.join(" ", methods).equals(FACE)) {
            say("the face has " + methods);
        }
        Set<String> fields = new TreeSet<>();
        for (Field f : RunSorter.class.getDeclaredFields()) {
            if (!Modifier.isPrivate(f.getModifiers())) {
                fields.add(f.getName());
            }
        }
        if (!String.join(" ", fields).equals("BAD FULL NO NONE")) {
            say("the face has the fields " + fields);
        }
        Constructor<?>[] made = RunSorter.class.getDeclaredConstructors();
        if (made.length != 1 || made[0].getParameterCount() != 0 || !Modifier.isPublic(made[0].getModifiers())) {
            say("the face has other constructors");
        }
        if (RunSorter.class.getModifiers() != (Modifier.PUBLIC | Modifier.FINAL)) {
            say("the class is not public and final");
        }
    }

    private static void nested() {
        Class<?>[] inside = RunSorter.class.getDeclaredClasses();
        if (inside.length > 12) {
            say("more than twelve classes");
        }
        for (Class<?> c : inside) {
            if (!Modifier.isStatic(c.getModifiers()) || Modifier.isPublic(c.getModifiers())) {
                say("not static, or public: " + c);
            }
            fields(c);
            methods(c);
        }
        fields(RunSorter.class);
        methods(RunSorter.class);
    }

    private static void methods(Class<?> c) {
        for (Method m : c.getDeclaredMethods()) {
            boolean ofTheFace = Modifier.isPublic(m.getModifiers());
            if (!ofTheFace && (" " + FACE).contains(" " + m.getName() + "(")) {
                say("bears the name of a public one: " + m);
            }
            if (m.getParameterCount() > 7) {
                say("more than seven parameters: " + m);
            }
        }
    }

    private static void fields(Class<?> c) {
        int own = 0;
        for (Field f : c.getDeclaredFields()) {
            if (!Modifier.isStatic(f.getModifiers())) {
                own++;
            } else if (!Modifier.isFinal(f.getModifiers()) || !STATIC_TYPES.contains(f.getType().getSimpleName())) {
                say("static, and no constant: " + f);
            }
        }
        if (own > 20) {
            say("more than twenty fields: " + c);
        }
    }

    private static void source(String text) {
        Matcher found = Pattern.compile(RULED_OUT).matcher(text);
        while (found.find()) {
            say("ruled out: " + found.group());
        }
        Matcher imports = Pattern.compile("import ([^;]*);").matcher(text);
        while (imports.find()) {
            if (!imports.group(1).equals("java.util.Arrays")) {
                say("import of " + imports.group(1));
            }
        }
        if (!text.chars().allMatch(c -> c == '\n' || c >= 32 && c < 127)) {
            say("a sign beyond ASCII, or a tab");
        }
    }
}
