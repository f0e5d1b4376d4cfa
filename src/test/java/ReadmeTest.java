import java.io.IOException;
import java.lang.reflect.InvocationTargetException;
import java.lang.reflect.Method;
import java.nio.file.Files;
import java.nio.file.Path;
import java.util.HashMap;
import java.util.Map;
import java.util.Set;
import java.util.TreeSet;
import java.util.regex.Matcher;
import java.util.regex.Pattern;

/**
 * Does what README.md shows, line by line, and looks whether each call answers what is said behind it.
 * It is run where README.md lies, as .ci/run does.
 */
public final class ReadmeTest {
    private static final Pattern MADE =
        Pattern.compile("SignCutter (\\w+) = new SignCutter\\((-?\\d+), (-?\\d+)\\);(\\s*//.*)?");
    private static final Pattern CALL = Pattern.compile("(\\w+)\\.(\\w+)\\(([^)]*)\\);(?:\\s*// (.*))?");
    private static final Pattern ANSWER = Pattern.compile("(-?\\d+|NONE|throws \\w+)(:.*)?");
    private static final String VOID = "nothing";

    private static final Map<String, SignCutter> LINES = new HashMap<>();
    private static final Set<String> CALLED = new TreeSet<>();
    private static int wrong = 0;
    private static int looked = 0;

    public static void main(String[] args) throws IOException, IllegalAccessException {
        boolean inJava = false;
        for (String text : Files.readAllLines(Path.of("README.md"))) {
            if (text.startsWith("```")) {
                inJava = text.equals("```java");
            } else if (inJava && !text.isBlank()) {
                look(text);
            }
        }
        lookWhetherAllAreShown();
        System.out.println(wrong == 0 ? "README.md tells the truth of " + looked + " calls" : wrong + " lines are wrong");
        if (wrong != 0) {
            System.exit(1);
        }
    }

    private static void tell(String fault) {
        wrong++;
        System.out.println(fault);
    }

    private static void lookWhetherAllAreShown() {
        for (Method method : SignCutter.class.getMethods()) {
            if (method.getDeclaringClass() == SignCutter.class && !CALLED.contains(method.getName())) {
                tell("README.md does not show " + method.getName());
            }
        }
    }

    private static void look(String text) throws IllegalAccessException {
        Matcher made = MADE.matcher(text);
        if (made.matches()) {
            LINES.put(made.group(1), new SignCutter(Integer.parseInt(made.group(2)), Integer.parseInt(made.group(3))));
            return;
        }
        Matcher call = CALL.matcher(text);
        if (!call.matches() || !LINES.containsKey(call.group(1))) {
            tell("not understood: " + text);
            return;
        }
        String got = answer(LINES.get(call.group(1)), call.group(2), call.group(3));
        String said = said(call.group(4));
        CALLED.add(call.group(2));
        looked++;
        if (!got.equals(said)) {
            tell(text + " answered " + got);
        }
    }

    /** Behind a call that answers nothing, any remark may stand, or none. */
    private static String said(String remark) {
        Matcher answer = ANSWER.matcher(remark == null ? "" : remark);
        return answer.matches() ? answer.group(1).replace("NONE", String.valueOf(SignCutter.NONE)) : VOID;
    }

    private static String answer(SignCutter line, String name, String written) throws IllegalAccessException {
        String[] parts = written.isEmpty() ? new String[0] : written.split(", ");
        for (Method method : SignCutter.class.getMethods()) {
            if (method.getName().equals(name) && method.getParameterCount() == parts.length) {
                try {
                    Object got = method.invoke(line, values(method, parts));
                    return got == null ? VOID : got.toString();
                } catch (InvocationTargetException e) {
                    return "throws " + e.getCause().getClass().getSimpleName();
                }
            }
        }
        return "no such method";
    }

    private static Object[] values(Method method, String[] parts) {
        Object[] values = new Object[parts.length];
        for (int i = 0; i < parts.length; i++) {
            boolean truth = method.getParameterTypes()[i] == boolean.class;
            values[i] = truth ? (Object) Boolean.valueOf(parts[i]) : (Object) Integer.valueOf(parts[i]);
        }
        return values;
    }
}
