import java.lang.reflect.Constructor;
import java.lang.reflect.Field;
import java.lang.reflect.Method;
import java.lang.reflect.Modifier;
import java.util.Arrays;
import java.util.Set;
import java.util.TreeSet;

/** The class shows the document's face and nothing else (LANGUAGE.md, rules 1 and 5). */
public final class FaceTest {
    private static final String[] FACE = {
        "int person()", "int weigh(int,int,int)", "int of(int,int)", "int pair(int,int)", "int alone(int)",
        "int take(int)", "int mend(int)", "int partner(int)", "int feed(int)", "int read()", "int way(int)",
        "int flower(int,int)", "int shrunk()", "int best(int,int)", "int told(int)", "int parts(int)",
        "int loss(int)", "int halves(int,int)", "int odd(int,int)", "int bear()", "int proof(int)",
        "int see(int,int)", "int fits(int,int,int)", "long odds(int,int,int)", "long mean(int)",
        "int event(int,int)", "int after(int)", "int book(int,int)", "int looked()", "int judge(int,int)",
        "int image()", "int undo()", "int count(int)", "int tape(int,int,int)", "int item(int,int,long)",
        "long peek(int,int)", "int shift(int,int,int,int,int)"};
    private static int wrong = 0;

    private static void due(boolean good, String what) {
        if (!good) {
            wrong++;
            System.out.println("the face: " + what);
        }
    }

    public static void main(String[] args) throws IllegalAccessException {
        Class<?> face = OddPartners.class;
        due(face.getModifiers() == (Modifier.PUBLIC | Modifier.FINAL), "public and final");
        due(face.getSuperclass() == Object.class && face.getInterfaces().length == 0, "extends nothing");
        Constructor<?>[] constructors = face.getDeclaredConstructors();
        due(constructors.length == 1 && constructors[0].getParameterCount() == 0
                && Modifier.isPublic(constructors[0].getModifiers()), "the constructor");
        methods(face);
        constants(face);
        for (Class<?> inside : face.getDeclaredClasses()) {
            int m = inside.getModifiers();
            due(Modifier.isStatic(m) && !Modifier.isPublic(m) && !Modifier.isProtected(m), inside.getName());
            statics(inside);
            long fields = Arrays.stream(inside.getDeclaredFields())
                    .filter(f -> !Modifier.isStatic(f.getModifiers())).count();
            due(fields <= 20, inside.getName() + " has too many fields");
        }
        due(face.getDeclaredClasses().length <= 11, "twelve classes at most");
        System.out.println(wrong == 0 ? "the face is as told" : wrong + " faults of the face");
        if (wrong > 0) {
            System.exit(1);
        }
    }

    private static void methods(Class<?> face) {
        Set<String> open = new TreeSet<>();
        Set<String> names = new TreeSet<>();
        for (Method m : face.getDeclaredMethods()) {
            if (m.isSynthetic()) {
                continue;
            }
            if (Modifier.isPrivate(m.getModifiers())) {
                continue;
            }
            due(m.getModifiers() == Modifier.PUBLIC, m + " is public alone");
            names.add(m.getName());
            StringBuilder types = new StringBuilder();
            for (Class<?> type : m.getParameterTypes()) {
                types.append(types.length() == 0 ? "" : ",").append(type);
            }
            open.add(m.getReturnType() + " " + m.getName() + "(" + types + ")");
        }
        due(open.equals(new TreeSet<>(Arrays.asList(FACE))), "the methods: " + open);
        hidden(face, names);
        for (Class<?> inside : face.getDeclaredClasses()) {
            hidden(inside, names);
        }
    }

    private static void hidden(Class<?> type, Set<String> names) {
        for (Method m : type.getDeclaredMethods()) {
            boolean bears = names.contains(m.getName()) && !Modifier.isPublic(m.getModifiers());
            due(!bears, m + " bears a public name");
            due(m.getParameterCount() <= 7, m + " has too many parameters");
        }
    }

    private static void statics(Class<?> type) {
        for (Field f : type.getDeclaredFields()) {
            if (Modifier.isStatic(f.getModifiers()) && !f.isSynthetic()) {
                due(Modifier.isFinal(f.getModifiers()) && f.getType().isPrimitive(), f + " is a constant");
            }
        }
    }

    private static void constants(Class<?> face) throws IllegalAccessException {
        statics(face);
        Set<String> open = new TreeSet<>();
        for (Field f : face.getDeclaredFields()) {
            if (!f.isSynthetic() && !Modifier.isPrivate(f.getModifiers())) {
                due(f.getModifiers() == (Modifier.PUBLIC | Modifier.STATIC | Modifier.FINAL), f.getName());
                open.add(f.getType() + " " + f.getName() + " " + f.get(null));
            }
        }
        Set<String> told = new TreeSet<>(Arrays.asList("int NONE -1", "int BAD -2", "int STATE -3", "int FULL -4",
                "long NO " + Long.MIN_VALUE));
        due(open.equals(told), "the constants: " + open);
    }
}
