import java.lang.reflect.InvocationTargetException;
import java.lang.reflect.Method;
import java.lang.reflect.Modifier;
import java.nio.file.Files;
import java.nio.file.Path;
import java.util.Set;
import java.util.TreeSet;
import java.util.regex.Matcher;
import java.util.regex.Pattern;

/**
 * The calls that README.md shows answer as it says, and all calls of the face are among them; the first argument is
 * the file, the second one the directory of the tests.
 *
 * <p>A row of a Java block is "Lineseam desk = new Lineseam();", or a call of desk with its answer as a comment (a
 * text in quotes, "throws" and the exception's name); ": " and what stands behind it explains. A block without a new
 * desk goes on with the one ahead.
 */
public final class ReadmeTest {
    private static final String NEW_DESK = "Lineseam desk = new Lineseam();";
    private static final Pattern CALL =
            Pattern.compile("desk\\.(\\w+)\\(([^()]*)\\); +// (\"[^\"]*\"|throws \\w+|true|false|-?\\d+)(: .+)?");

    private static final Set<String> shown = new TreeSet<>();
    private static Lineseam desk = null;

    private ReadmeTest() {
    }

    public static void main(String[] args) throws Exception {
        boolean isJava = false;
        int rows = 0;
        for (String row : Files.readAllLines(Path.of(args[0]))) {
            rows++;
            Check.at("README.md " + rows + ": " + row);
            if (row.startsWith("```")) {
                isJava = row.equals("```java");
            } else if (isJava) {
                hold(row);
            }
        }
        Check.at("calls of the face that README.md doesn't show");
        Set<String> missing = new TreeSet<>();
        for (Method method : Lineseam.class.getDeclaredMethods()) {
            if (Modifier.isPublic(method.getModifiers()) && !shown.contains(method.getName())) {
                missing.add(method.getName());
            }
        }
        Check.due("[]", missing);
        namesEachTest(Files.readString(Path.of(args[0])), Path.of(args[1]));
        Check.end("ReadmeTest");
    }

    private static void hold(String row) throws Exception {
        if (row.equals(NEW_DESK)) {
            desk = new Lineseam();
            return;
        }
        Matcher call = CALL.matcher(row);
        boolean isCall = call.matches();
        Check.due("a call with its answer", isCall && desk != null ? "a call with its answer" : row);
        if (isCall && desk != null) {
            shown.add(call.group(1));
            Check.due(call.group(3), answer(call.group(1), call.group(2)));
        }
    }

    private static String answer(String name, String told) throws Exception {
        String[] arguments = told.isEmpty() ? new String[0] : told.split(", ");
        Method method = null;
        for (Method one : Lineseam.class.getMethods()) {
            if (one.getName().equals(name) && one.getParameterCount() == arguments.length) {
                method = one;
            }
        }
        if (method == null) {
            return "there is no such call";
        }
        Object[] values = new Object[arguments.length];
        for (int k = 0; k < values.length; k++) {
            boolean isFlag = arguments[k].equals("true") || arguments[k].equals("false");
            values[k] = isFlag ? (Object) Boolean.valueOf(arguments[k]) : (Object) Integer.valueOf(arguments[k]);
        }
        try {
            Object got = method.invoke(desk, values);
            return got instanceof String ? "\"" + got + "\"" : String.valueOf(got);
        } catch (InvocationTargetException e) {
            return "throws " + e.getCause().getClass().getSimpleName();
        }
    }

    /** README.md tells how the tests are run, and of each of them. */
    private static void namesEachTest(String readme, Path tests) throws Exception {
        Check.at("how the tests are run");
        Check.due(true, readme.contains("`bash .ci/run`"));
        try (var files = Files.newDirectoryStream(tests, "*Test.java")) {
            for (Path file : files) {
                String name = file.getFileName().toString().replace(".java", "");
                Check.at("README.md tells of " + name);
                Check.due(true, readme.contains("`" + name + "`"));
            }
        }
    }
}
