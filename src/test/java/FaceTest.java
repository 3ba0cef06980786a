import java.io.IOException;
import java.lang.reflect.Constructor;
import java.lang.reflect.Field;
import java.lang.reflect.Method;
import java.lang.reflect.Modifier;
import java.nio.file.Files;
import java.nio.file.Path;
import java.util.Arrays;
import java.util.List;
import java.util.Set;
import java.util.TreeSet;
import java.util.regex.Matcher;
import java.util.regex.Pattern;

/** The class shows the document's face, in its words, and nothing else (LANGUAGE.md, rules 1 and 5). */
public final class FaceTest {
    private static final Path DOC = Path.of("..", "shared", "DOC.md");
    private static final Path SOURCE = Path.of("src", "main", "java", "OddPartners.java");
    private static final Pattern CALL = Pattern.compile("    public (int|long) (\\w+)\\((.*)\\);");
    private static final Pattern AHEAD =
            Pattern.compile("Ahead of the calls (.*) the interface says: (---- .*)\\.");

    private static int wrong = 0;

    private static void due(boolean good, String what) {
        if (!good) {
            wrong++;
            System.out.println("the face: " + what);
        }
    }

    public static void main(String[] args) throws IllegalAccessException, IOException {
        List<String> doc = Files.readAllLines(DOC);
        List<String> source = Files.readAllLines(SOURCE);
        Class<?> face = OddPartners.class;
        due(face.getModifiers() == (Modifier.PUBLIC | Modifier.FINAL), "public and final");
        due(face.getSuperclass() == Object.class && face.getInterfaces().length == 0, "extends nothing");
        Constructor<?>[] constructors = face.getDeclaredConstructors();
        due(constructors.length == 1 && constructors[0].getParameterCount() == 0
                && Modifier.isPublic(constructors[0].getModifiers()), "the constructor");
        methods(face, doc);
        constants(face);
        asWritten(doc, source);
        comments(doc, source);
        for (Class<?> inside : face.getDeclaredClasses()) {
            int m = inside.getModifiers();
            due(Modifier.isStatic(m) && !Modifier.isPublic(m) && !Modifier.isProtected(m), inside.getName());
            statics(inside);
            long fields = Arrays.stream(inside.getDeclaredFields())
                    .filter(f -> !Modifier.isStatic(f.getModifiers())).count();
            due(fields <= 20, inside.getName() + " has too many fields");
        }
        due(face.getDeclaredClasses().length <= 11, "twelve classes at most");
        System.out.println(wrong == 0 ? "the face is as told" : wrong + " faults of the face");
        if (wrong > 0) {
            System.exit(1);
        }
    }

    /** The methods of the document's face, by their types alone. */
    private static Set<String> told(List<String> doc) {
        Set<String> told = new TreeSet<>();
        for (String line : doc) {
            Matcher call = CALL.matcher(line);
            if (call.matches()) {
                String types = call.group(3).replaceAll(" \\w+(, )?", ",").replaceAll(",$", "");
                told.add(call.group(1) + " " + call.group(2) + "(" + types + ")");
            }
        }
        return told;
    }

    /** Constants and heads of methods stand in the program in the document's words and order. */
    private static void asWritten(List<String> doc, List<String> source) {
        int at = 0;
        int looked = 0;
        for (String line : doc.subList(doc.indexOf("```java") + 1, doc.size())) {
            if (line.equals("}")) {
                break;
            }
            String head = line.endsWith(");") ? line.replace(");", ") {") : line;
            int place = source.indexOf(head);
            due(place >= at, "not there, or ahead of what should be ahead of it: " + head);
            at = Math.max(at, place);
            looked++;
        }
        due(looked == 41, looked + " lines of the face");
    }

    /** What the interface says ahead of calls is a comment ahead of them, and of no others. */
    private static void comments(List<String> doc, List<String> source) {
        int looked = 0;
        for (String line : doc) {
            Matcher ahead = AHEAD.matcher(line);
            if (ahead.matches()) {
                looked++;
                StringBuilder names = new StringBuilder();
                int at = source.indexOf("    // " + ahead.group(2));
                due(at >= 0, "no comment " + ahead.group(2));
                for (int k = at + 1; k < source.size() && !source.get(k).startsWith("    // ----"); k++) {
                    Matcher call = CALL.matcher(source.get(k).replace(") {", ");"));
                    if (call.matches()) {
                        names.append(names.length() == 0 ? "" : ", ").append('`').append(call.group(2)).append('`');
                    }
                }
                due(names.toString().equals(ahead.group(1)), ahead.group(2) + " stands ahead of " + names);
            }
        }
        due(looked == 6, looked + " comments");
        int at = source.indexOf("    public static final long NO = Long.MIN_VALUE;");
        due(at > 0 && source.get(at - 1).equals("    /** There is no such number. */"), "what the interface says of NO");
    }

    private static void methods(Class<?> face, List<String> doc) {
        Set<String> open = new TreeSet<>();
        Set<String> names = new TreeSet<>();
        for (Method m : face.getDeclaredMethods()) {
            if (m.isSynthetic()) {
                continue;
            }
            if (Modifier.isPrivate(m.getModifiers())) {
                continue;
            }
            due(m.getModifiers() == Modifier.PUBLIC, m + " is public alone");
            names.add(m.getName());
            StringBuilder types = new StringBuilder();
            for (Class<?> type : m.getParameterTypes()) {
                types.append(types.length() == 0 ? "" : ",").append(type);
            }
            open.add(m.getReturnType() + " " + m.getName() + "(" + types + ")");
        }
        Set<String> told = told(doc);
        due(told.size() == 37, told.size() + " methods of the document");
        due(open.equals(told), "the methods: " + open + ", in the document: " + told);
        hidden(face, names);
        for (Class<?> inside : face.getDeclaredClasses()) {
            hidden(inside, names);
        }
    }

    private static void hidden(Class<?> type, Set<String> names) {
        for (Method m : type.getDeclaredMethods()) {
            boolean bears = names.contains(m.getName()) && !Modifier.isPublic(m.getModifiers());
            due(!bears, m + " bears a public name");
            due(m.getParameterCount() <= 7, m + " has too many parameters");
        }
    }

    private static void statics(Class<?> type) {
        for (Field f : type.getDeclaredFields()) {
            if (Modifier.isStatic(f.getModifiers()) && !f.isSynthetic()) {
                due(Modifier.isFinal(f.getModifiers()) && f.getType().isPrimitive(), f + " is a constant");
            }
        }
    }

    private static void constants(Class<?> face) throws IllegalAccessException {
        statics(face);
        Set<String> open = new TreeSet<>();
        for (Field f : face.getDeclaredFields()) {
            if (!f.isSynthetic() && !Modifier.isPrivate(f.getModifiers())) {
                due(f.getModifiers() == (Modifier.PUBLIC | Modifier.STATIC | Modifier.FINAL), f.getName());
                open.add(f.getType() + " " + f.getName() + " " + f.get(null));
            }
        }
        Set<String> told = new TreeSet<>(Arrays.asList("int NONE -1", "int BAD -2", "int STATE -3", "int FULL -4",
                "long NO " + Long.MIN_VALUE));
        due(open.equals(told), "the constants: " + open);
    }
}
