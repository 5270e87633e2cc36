import java.lang.reflect.Constructor;
import java.lang.reflect.Field;
import java.lang.reflect.Method;
import java.lang.reflect.Modifier;
import java.nio.file.Files;
import java.nio.file.Path;
import java.util.ArrayList;
import java.util.Arrays;
import java.util.HashSet;
import java.util.List;
import java.util.Map;
import java.util.Set;
import java.util.TreeMap;
import java.util.TreeSet;
import java.util.regex.Matcher;
import java.util.regex.Pattern;

/** The face of the class, and the rules of LANGUAGE.md that the class or its source can tell. */
public final class LanguageTests {
    private static final List<String> FACE = List.of(
            "int type(int)", "int clear()", "int house()", "int word(int,int)", "int motion(int,int)",
            "int said(int,int)", "int baby(int,int)", "int now(int)", "int reads(int,int)", "int rocks(int)",
            "int feeds(int)", "int undo()", "int would(int,int)", "int deep(int,int)", "int rockings(int,int)",
            "int wording(int,int,int)", "int noise(int,int,int)", "int odds(int,int,int,int)", "int match(int)",
            "int agenda(int,int)", "int hears(int,int)", "int forget()", "int which()", "int rate(int,int)",
            "int keep(int)", "int back(int)", "int count(int)", "long trace()");
    private static final Set<String> CONSTANTS = Set.of("BAD", "STATE", "FULL", "NONE", "NO");
    private static final int MOST_LINES = 60, MOST_PARAMETERS = 7, MOST_CLASSES = 12, MOST_FIELDS = 20;
    private static final int MOST_CALLS_DEEP = 8;

    private static int wrong = 0;

    private static void must(int rule, boolean holds, String what) {
        if (!holds) {
            wrong++;
            System.out.println("rule " + rule + ": " + what);
        }
    }

    public static void main(String[] args) throws Exception {
        Path source = Path.of(args.length > 0 ? args[0] : "src/main/java/CradleBills.java");
        face();
        nested();
        text(Files.readString(source));
        System.out.println(wrong == 0 ? "the rules are kept" : wrong + " rules are broken");
        if (wrong != 0) {
            System.exit(1);
        }
    }

    private static String signature(Method method) {
        StringBuilder text = new StringBuilder(method.getReturnType() + " " + method.getName() + "(");
        for (Class<?> one : method.getParameterTypes()) {
            text.append(text.charAt(text.length() - 1) == '(' ? "" : ",").append(one);
        }
        return text.append(")").toString();
    }

    private static void face() {
        Class<?> c = CradleBills.class;
        must(1, Modifier.isPublic(c.getModifiers()) && Modifier.isFinal(c.getModifiers()), "public and final");
        Set<String> shown = new TreeSet<>();
        for (Method method : c.getDeclaredMethods()) {
            if (!Modifier.isPrivate(method.getModifiers())) {
                must(1, Modifier.isPublic(method.getModifiers()) && !Modifier.isStatic(method.getModifiers()), method.toString());
                must(6, method.getExceptionTypes().length == 0, method.toString());
                shown.add(signature(method));
            }
        }
        must(1, shown.equals(new TreeSet<>(FACE)), "the methods are " + shown);
        Constructor<?>[] made = c.getDeclaredConstructors();
        must(1, made.length == 1 && Modifier.isPublic(made[0].getModifiers()) && made[0].getParameterCount() == 0, "one constructor");
        Set<String> constants = new HashSet<>();
        for (Field field : c.getDeclaredFields()) {
            int kind = field.getModifiers();
            if (!Modifier.isPrivate(kind)) {
                must(1, Modifier.isPublic(kind) && Modifier.isStatic(kind) && Modifier.isFinal(kind) && field.getType() == int.class, field.toString());
                constants.add(field.getName());
            }
        }
        must(1, constants.equals(CONSTANTS), "the constants are " + constants);
    }

    private static void nested() {
        List<Class<?>> classes = new ArrayList<>(Arrays.asList(CradleBills.class.getDeclaredClasses()));
        classes.add(CradleBills.class);
        must(11, classes.size() <= MOST_CLASSES, classes.size() + " classes");
        Set<String> names = new HashSet<>();
        FACE.forEach(one -> names.add(one.replaceAll(".* |\\(.*", "")));
        for (Class<?> one : classes) {
            boolean outer = one == CradleBills.class;
            must(2, outer || Modifier.isStatic(one.getModifiers()) && !Modifier.isPublic(one.getModifiers()), one.toString());
            int fields = 0;
            for (Field field : one.getDeclaredFields()) {
                boolean isStatic = Modifier.isStatic(field.getModifiers());
                must(5, !isStatic || Modifier.isFinal(field.getModifiers()), field.toString());
                fields += isStatic ? 0 : 1;
            }
            must(11, fields <= MOST_FIELDS, one + " has " + fields + " fields");
            for (Method method : one.getDeclaredMethods()) {
                must(11, method.getParameterCount() <= MOST_PARAMETERS, method.toString());
                boolean shown = outer && Modifier.isPublic(method.getModifiers());
                must(1, shown || !names.contains(method.getName()), method + " bears the name of a public one");
                must(2, !method.isSynthetic(), method.toString());
            }
        }
    }

    private static void text(String source) {
        for (char sign : source.toCharArray()) {
            must(4, sign == '\n' || sign >= 32 && sign < 127, "a sign of number " + (int) sign);
        }
        String code = source.replaceAll("(?s)/\\*.*?\\*/", "").replaceAll("//[^\n]*", "")
                .replaceAll("'.'", "'.'").replaceAll("\"[^\"]*\"", "\"\"");
        Matcher banned = Pattern.compile("\\b(throw|throws|try|catch|finally|synchronized|assert|package|native|volatile"
                + "|System\\.(?!arraycopy)\\w+|\\w+Exact|Random|Thread|Object|equals|hashCode|toString|Exception|Error)\\b|->|::|\\bstatic\\s*\\{").matcher(code);
        while (banned.find()) {
            must(6, false, "'" + banned.group() + "' stands in the source");
        }
        Matcher imports = Pattern.compile("import ([^;]*);").matcher(code);
        while (imports.find()) {
            must(4, Set.of("java.util.Arrays", "java.util.ArrayList", "java.util.List").contains(imports.group(1)), imports.group());
        }
        callDepths(methodBodies(code.split("\n", -1)));
    }

    /**
     * A method begins with a line that is indented by 4 or 8 and ends in "{", and ends with its "}".
     * Methods of one name in several classes are taken for one, so a chain of calls may seem longer
     * than it is, but never shorter.
     */
    private static Map<String, String> methodBodies(String[] lines) {
        Map<String, String> bodies = new TreeMap<>();
        for (int from = 0; from < lines.length; from++) {
            Matcher head = Pattern.compile("^( {4}| {8})[a-zA-Z].*?(\\w+)\\(.*\\) \\{$").matcher(lines[from]);
            if (!head.matches()) {
                continue;
            }
            int to = from;
            StringBuilder body = new StringBuilder();
            while (to < lines.length && !lines[to].equals(head.group(1) + "}")) {
                to++;
                body.append(to < lines.length ? lines[to] : "").append('\n');
            }
            must(11, to - from < MOST_LINES, "a long method: " + lines[from].trim());
            bodies.merge(head.group(2), body.toString(), String::concat);
        }
        return bodies;
    }

    private static void callDepths(Map<String, String> bodies) {
        must(11, bodies.size() > FACE.size(), "the methods were not found in the source");
        for (String name : bodies.keySet()) {
            List<String> chain = longestChain(name, bodies, new ArrayList<>());
            must(11, chain.size() <= MOST_CALLS_DEEP, "calls too deep: " + chain);
        }
    }

    /** A method that stands in the chain already is recursion, which another rule bounds. */
    private static List<String> longestChain(String name, Map<String, String> bodies, List<String> open) {
        List<String> longest = List.of();
        open.add(name);
        Matcher call = Pattern.compile("\\b(?<!new )(\\w+)\\(").matcher(bodies.get(name));
        Set<String> called = new TreeSet<>();
        while (call.find()) {
            called.add(call.group(1));
        }
        for (String next : called) {
            if (bodies.containsKey(next) && !open.contains(next)) {
                List<String> chain = longestChain(next, bodies, open);
                longest = chain.size() > longest.size() ? chain : longest;
            }
        }
        open.remove(open.size() - 1);
        List<String> whole = new ArrayList<>(List.of(name));
        whole.addAll(longest);
        return whole;
    }
}
