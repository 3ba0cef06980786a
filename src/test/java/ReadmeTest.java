import java.io.IOException;
import java.lang.reflect.InvocationTargetException;
import java.lang.reflect.Method;
import java.nio.file.Files;
import java.nio.file.Path;
import java.util.List;
import java.util.Set;
import java.util.TreeSet;
import java.util.regex.Matcher;
import java.util.regex.Pattern;

/** The examples of README.md answer as they say there, and show every call of the face. */
public final class ReadmeTest {
    private static final Pattern MADE = Pattern.compile("OddPartners x = new OddPartners\\(\\);");
    private static final Pattern FED = Pattern.compile("\"([^\"]*)\"\\.chars\\(\\)\\.forEach\\(x::feed\\);");
    private static final Pattern CALL = Pattern.compile("x\\.(\\w+)\\((.*)\\); +// (-?\\d+)(:.*)?");

    private static OddPartners x;
    private static final Set<String> shown = new TreeSet<>();
    private static int calls = 0;
    private static int wrong = 0;

    public static void main(String[] args) throws IOException, IllegalAccessException, InvocationTargetException {
        List<String> lines = Files.readAllLines(Path.of("README.md"));
        boolean isExample = false;
        for (int k = 0; k < lines.size(); k++) {
            String line = lines.get(k);
            if (line.startsWith("```")) {
                isExample = line.equals("```java");
                x = null;
            } else if (isExample) {
                look(line, k + 1);
            }
        }
        for (Method m : OddPartners.class.getDeclaredMethods()) {
            if (java.lang.reflect.Modifier.isPublic(m.getModifiers()) && !shown.contains(m.getName())) {
                fault(lines.size(), "no example of " + m.getName());
            }
        }
        System.out.println(calls + " examples of README.md, " + wrong + " wrong");
        if (wrong > 0) {
            System.exit(1);
        }
    }

    private static void fault(int line, String what) {
        wrong++;
        System.out.println("README.md, line " + line + ": " + what);
    }

    private static void look(String line, int number) throws IllegalAccessException, InvocationTargetException {
        Matcher fed = FED.matcher(line);
        Matcher call = CALL.matcher(line);
        if (MADE.matcher(line).matches()) {
            x = new OddPartners();
        } else if (x != null && fed.matches()) {
            fed.group(1).chars().forEach(x::feed);
            shown.add("feed");
        } else if (x != null && call.matches()) {
            calls++;
            shown.add(call.group(1));
            String answer = answer(call.group(1), call.group(2));
            if (!answer.equals(call.group(3))) {
                fault(number, line + " answered " + answer);
            }
        } else {
            fault(number, "not understood: " + line);
        }
    }

    private static String answer(String name, String told) throws IllegalAccessException, InvocationTargetException {
        String[] numbers = told.isEmpty() ? new String[0] : told.split(", ");
        for (Method m : OddPartners.class.getMethods()) {
            if (m.getName().equals(name) && m.getParameterCount() == numbers.length) {
                Object[] arguments = new Object[numbers.length];
                for (int k = 0; k < numbers.length; k++) {
                    boolean isLong = m.getParameterTypes()[k] == long.class;
                    arguments[k] = isLong ? (Object) Long.valueOf(numbers[k]) : (Object) Integer.valueOf(numbers[k]);
                }
                return m.invoke(x, arguments).toString();
            }
        }
        return "nothing: there is no such call";
    }
}
