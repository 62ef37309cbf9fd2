import java.io.IOException;
import java.lang.management.ManagementFactory;
import java.lang.reflect.Constructor;
import java.lang.reflect.Field;
import java.lang.reflect.Method;
import java.lang.reflect.Modifier;
import java.nio.file.Files;
import java.nio.file.Path;
import java.util.Arrays;
import java.util.List;
import java.util.Set;
import java.util.TreeSet;
import java.util.regex.Matcher;
import java.util.regex.Pattern;

/** The face of the document, and those rules of the language that can be looked at from outside. */
public final class RulesTest {
    private static final Checks CHECKS = new Checks();
    private static final String[] METHODS = {
        "int corners(int,int)", "int edge(int,int,int)", "int type(long,int)", "int face(int)", "int text(int)",
        "int count(int,int)", "int told(int,int,int)", "int rim(int,int,int)", "int holes(int,int,int)",
        "long bend(int,int)", "int tables(int,int)", "int layers(int,int)", "int layer(int,int,int)",
        "int storeys(int)", "int moves(int,int)", "int lift(int,int)", "int moved(int)", "int word(int,int)",
        "int walk(int,int,int,int,int,int)", "int about(int,int)", "int step(int,int)", "int drawn(int,int)",
        "int product(int,int,int)", "int nought(int,int)", "int fold(int)", "int join()", "int sheet(int,int,int)",
        "int drop(int)", "int item(int,int,int,int)"};

    private static final Set<String> LIBRARY =
        Set.of("java.util.Arrays", "java.util.ArrayList", "java.util.List", "java.util.Iterator");
    private static final Set<String> CONTROL = Set.of("if", "for", "while", "switch");

    public static void main(String[] args) throws IOException, ReflectiveOperationException {
        face();
        hiddenMembers();
        constants();
        source(Files.readString(Path.of(args[0])));
        madeByCalls();
        CHECKS.end("RulesTest");
    }

    private static String written(Method method) {
        StringBuilder types = new StringBuilder();
        for (Class<?> type : method.getParameterTypes()) {
            types.append(types.length() == 0 ? "" : ",").append(type.getName());
        }
        return method.getReturnType().getName() + " " + method.getName() + "(" + types + ")";
    }

    private static void face() {
        Set<String> due = new TreeSet<>(Arrays.asList(METHODS));
        Set<String> got = new TreeSet<>();
        for (Method method : LoopSpaces.class.getDeclaredMethods()) {
            if (Modifier.isPublic(method.getModifiers())) {
                got.add(written(method));
            }
        }
        CHECKS.holds("the methods are those of the document: " + got, due.equals(got));
        int modifiers = LoopSpaces.class.getModifiers();
        CHECKS.holds("public and final", Modifier.isPublic(modifiers) && Modifier.isFinal(modifiers));
        Constructor<?>[] constructors = LoopSpaces.class.getDeclaredConstructors();
        CHECKS.holds("one public constructor", constructors.length == 1
            && Modifier.isPublic(constructors[0].getModifiers()) && constructors[0].getParameterCount() == 0);
    }

    private static void hiddenMembers() {
        Set<String> names = new TreeSet<>();
        for (String method : METHODS) {
            names.add(method.replaceAll("^\\w+ |\\(.*", ""));
        }
        for (Method method : LoopSpaces.class.getDeclaredMethods()) {
            int modifiers = method.getModifiers();
            if (!Modifier.isPublic(modifiers) && !method.isSynthetic()) {
                CHECKS.holds(method + " is private", Modifier.isPrivate(modifiers));
                CHECKS.holds(method + " bears a name of its own", !names.contains(method.getName()));
            }
        }
        for (Class<?> inside : LoopSpaces.class.getDeclaredClasses()) {
            CHECKS.holds(inside + " is static", Modifier.isStatic(inside.getModifiers()));
            CHECKS.holds(inside + " is not public", !Modifier.isPublic(inside.getModifiers()));
            CHECKS.holds(inside + " has few fields", fieldsOf(inside) <= 20);
            for (Method method : inside.getDeclaredMethods()) {
                CHECKS.holds(method + " bears a name of its own", !names.contains(method.getName()));
            }
        }
        CHECKS.holds("few classes", LoopSpaces.class.getDeclaredClasses().length < 13);
        CHECKS.holds("few fields", fieldsOf(LoopSpaces.class) <= 20);
    }

    private static long fieldsOf(Class<?> type) {
        return Arrays.stream(type.getDeclaredFields()).filter(field -> !Modifier.isStatic(field.getModifiers())).count();
    }

    private static void constants() throws IllegalAccessException {
        List<String> due = List.of("BAD=-1", "NOT=-2", "FULL=-3", "NONE=-4", "SPENT=-5", "NULL=-11", "CAST=-12",
            "INDEX=-13", "SIZE=-14");
        Set<String> got = new TreeSet<>();
        for (Field field : LoopSpaces.class.getDeclaredFields()) {
            int modifiers = field.getModifiers();
            if (Modifier.isPublic(modifiers)) {
                CHECKS.holds(field + " is constant", Modifier.isStatic(modifiers) && Modifier.isFinal(modifiers));
                got.add(field.getName() + "=" + field.getInt(null));
            } else {
                CHECKS.holds(field + " is private", Modifier.isPrivate(modifiers));
                CHECKS.holds(field + " is no state of all", !Modifier.isStatic(modifiers) || Modifier.isFinal(modifiers));
            }
        }
        CHECKS.holds("the constants are those of the document: " + got, new TreeSet<>(due).equals(got));
    }

    private static void source(String whole) {
        CHECKS.holds("signs 1 to 127", whole.chars().allMatch(c -> c > 0 && c < 128));
        String code = whole.replaceAll("(?s)/\\*.*?\\*/", "").replaceAll("//[^\n]*", "").replaceAll("'[^']+'", "' '");
        for (String word : new String[] {"throw", "throws", "try", "catch", "synchronized", "assert",
            "Object", "volatile", "native", "package", "protected", "hashCode", "NaN", "Thread", "Random", "System.in",
            "System.out", "currentTimeMillis", "nanoTime"}) {
            CHECKS.holds("no " + word, !Pattern.compile("\\b" + word + "\\b").matcher(code).find());
        }
        CHECKS.holds("no lambda, no method reference", !code.contains("->") && !code.contains("::"));
        CHECKS.holds("no static block", !Pattern.compile("static\\s*\\{").matcher(code).find());
        CHECKS.holds("nothing is named Exact", !code.contains("Exact("));
        Matcher imports = Pattern.compile("import ([\\w.]+);").matcher(code);
        while (imports.find()) {
            CHECKS.holds("import of " + imports.group(1), LIBRARY.contains(imports.group(1)));
        }
        methods(code);
    }

    /** Of each method that has a body: how long it is, how many numbers it takes. */
    private static void methods(String code) {
        Matcher method = Pattern.compile("[\\w\\]>]\\s+(\\w+)\\(([^()]*)\\)\\s*\\{").matcher(code);
        int found = 0;
        while (method.find()) {
            if (!CONTROL.contains(method.group(1))) {
                long lines = code.substring(method.start(), bodyEnd(code, method.end())).lines().count();
                int parameters = method.group(2).isBlank() ? 0 : method.group(2).split(",").length;
                CHECKS.holds(method.group(1) + " is short: " + lines, lines <= 60);
                CHECKS.holds(method.group(1) + " takes few: " + parameters, parameters <= 7);
                found++;
            }
        }
        CHECKS.holds("methods were found: " + found, found >= METHODS.length);
    }

    private static int bodyEnd(String code, int begin) {
        int open = 1;
        int at = begin;
        while (at < code.length() && open > 0) {
            char sign = code.charAt(at);
            open += sign == '{' ? 1 : sign == '}' ? -1 : 0;
            at++;
        }
        return at;
    }

    /** All calls of a run live in one room, so they must make little; here nothing at all is made behind the first ones. */
    private static void madeByCalls() {
        com.sun.management.ThreadMXBean bean = (com.sun.management.ThreadMXBean) ManagementFactory.getThreadMXBean();
        long thread = Thread.currentThread().getId();
        LoopSpaces x = new LoopSpaces();
        dearCalls(x);
        long before = bean.getThreadAllocatedBytes(thread);
        for (int k = 0; k < 10; k++) {
            dearCalls(x);
        }
        long made = bean.getThreadAllocatedBytes(thread) - before;
        CHECKS.holds("calls make next to nothing: " + made + " bytes", made < 4000);
    }

    private static void dearCalls(LoopSpaces x) {
        x.type(0x313b613d303e303bL, 8);
        x.type(0x623d303e303b3a61L, 8);
        x.type(0x624142L, 3);
        x.text(0);
        x.layers(0, 4);
        x.layer(0, 4, 3);
        x.holes(2, 1, 7);
        x.bend(0, 0);
        x.type(0x6162L, 2);
        x.word(0, 0);
        x.type(0x6261L, 2);
        x.word(1, 0);
        x.drawn(0, 1);
        x.moved(0);
        x.sheet(0, 1, 20);
        x.drop(0);
        x.nought(0, 1);
        x.fold(1);
        x.join();
    }
}
