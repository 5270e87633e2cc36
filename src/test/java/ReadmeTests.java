import java.lang.reflect.Method;
import java.lang.reflect.Modifier;
import java.nio.file.Files;
import java.nio.file.Path;
import java.util.HashMap;
import java.util.Map;
import java.util.regex.Matcher;
import java.util.regex.Pattern;

/** README.md shows a run of calls with their answers, and names every call: both must be so. */
public final class ReadmeTests {
    private static final Pattern TEXT = Pattern.compile("String text = \"([^\"]*)\";");
    private static final Pattern ROW = Pattern.compile("(?m)^house\\.(\\w+)\\(([^)]*)\\);\\s+// (-?\\d+):");
    private static final int FEWEST_ROWS = 20;

    private static int wrong = 0;

    private static void must(boolean holds, String what) {
        if (!holds) {
            wrong++;
            System.out.println("README.md: " + what);
        }
    }

    public static void main(String[] args) throws Exception {
        String page = Files.readString(Path.of("README.md"));
        Map<String, Method> methods = new HashMap<>();
        for (Method method : CradleBills.class.getDeclaredMethods()) {
            if (Modifier.isPublic(method.getModifiers())) {
                methods.put(method.getName(), method);
                must(page.contains("`" + method.getName() + "`"), method.getName() + " is not named");
            }
        }
        int rows = run(page, methods);
        must(rows >= FEWEST_ROWS, "only " + rows + " rows of calls were found");
        System.out.println(wrong == 0 ? rows + " rows answer as README.md says" : wrong + " faults");
        if (wrong != 0) {
            System.exit(1);
        }
    }

    private static int run(String page, Map<String, Method> methods) throws Exception {
        CradleBills house = new CradleBills();
        Matcher text = TEXT.matcher(page);
        must(text.find(), "there is no text to tell");
        for (char letter : text.group(1).toCharArray()) {
            house.type(letter);
        }
        Matcher row = ROW.matcher(page);
        int rows = 0;
        while (row.find()) {
            rows++;
            Method method = methods.get(row.group(1));
            if (method == null) {
                must(false, "there is no " + row.group(1));
                continue;
            }
            long got = ((Number) method.invoke(house, numbers(row.group(2)))).longValue();
            must(got == Long.parseLong(row.group(3)), row.group() + " but it answered " + got);
        }
        return rows;
    }

    private static Object[] numbers(String list) {
        String[] parts = list.isBlank() ? new String[0] : list.split(",");
        Object[] all = new Object[parts.length];
        for (int i = 0; i < parts.length; i++) {
            all[i] = Integer.parseInt(parts[i].trim());
        }
        return all;
    }
}
