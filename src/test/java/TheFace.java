import java.lang.reflect.Constructor;
import java.lang.reflect.Field;
import java.lang.reflect.Method;
import java.lang.reflect.Modifier;
import java.util.HashSet;
import java.util.Set;
import java.util.TreeSet;

/** Looks whether the class shows the document's face and nothing else. */
public final class TheFace {
    private static final Set<String> FACE = Set.of(
            "int add(int, int, int, int, int)",
            "boolean drop(int)",
            "boolean derive(int, int)",
            "boolean bind(int, int, int)",
            "int target(int, int)",
            "int size(int)",
            "int analyse(int)",
            "int verdict()",
            "boolean finding(int, int)",
            "boolean may(int, int, int, int)",
            "int entries(int)",
            "int points(int, int)",
            "int cell(int, int)",
            "int run(int, int)",
            "int outcome()",
            "int hits(int, int)",
            "int made()");
    private static int wrong = 0;

    private static void expect(String what, boolean holds) {
        if (!holds) {
            wrong++;
            System.out.println("does not hold: " + what);
        }
    }

    private static String text(Method method) {
        StringBuilder text = new StringBuilder();
        text.append(method.getReturnType()).append(' ').append(method.getName()).append('(');
        String gap = "";
        for (Class<?> type : method.getParameterTypes()) {
            text.append(gap).append(type);
            gap = ", ";
        }
        return text.append(')').toString();
    }

    private static void checkMethods(Class<?> type) {
        Set<String> shown = new TreeSet<>();
        Set<String> names = new HashSet<>();
        for (Method method : type.getDeclaredMethods()) {
            if (Modifier.isPublic(method.getModifiers())) {
                shown.add(text(method));
                names.add(method.getName());
                expect(method + " belongs to an object", !Modifier.isStatic(method.getModifiers()));
            } else {
                expect(method + " is private", Modifier.isPrivate(method.getModifiers()));
            }
        }
        expect("the public methods are the document's", shown.equals(new TreeSet<>(FACE)));
        for (Method method : type.getDeclaredMethods()) {
            if (Modifier.isPrivate(method.getModifiers())) {
                expect(method + " has a name of its own", !names.contains(method.getName()));
            }
        }
    }

    private static void checkFields(Class<?> type) {
        for (Field field : type.getDeclaredFields()) {
            int modifiers = field.getModifiers();
            boolean isNone = field.getName().equals("NONE");
            expect(field + " is private unless it is NONE", isNone
                    ? Modifier.isPublic(modifiers) && field.getType() == int.class
                    : Modifier.isPrivate(modifiers));
            if (Modifier.isStatic(modifiers)) {
                expect(field + " is final", Modifier.isFinal(modifiers));
            }
        }
    }

    private static void checkInside(Class<?> inside) {
        expect(inside + " is static", Modifier.isStatic(inside.getModifiers()));
        for (Field field : inside.getDeclaredFields()) {
            if (Modifier.isStatic(field.getModifiers())) {
                expect(field + " is final", Modifier.isFinal(field.getModifiers()));
            }
        }
    }

    public static void main(String[] args) {
        Class<?> type = LabelledFlows.class;
        expect("the class is public and final",
                Modifier.isPublic(type.getModifiers()) && Modifier.isFinal(type.getModifiers()));
        Constructor<?>[] constructors = type.getDeclaredConstructors();
        expect("there is one constructor, public, without parameters", constructors.length == 1
                && Modifier.isPublic(constructors[0].getModifiers())
                && constructors[0].getParameterCount() == 0);
        checkMethods(type);
        checkFields(type);
        for (Class<?> inside : type.getDeclaredClasses()) {
            checkInside(inside);
        }
        System.out.println(wrong == 0 ? "the face is the document's" : wrong + " things do not hold");
        if (wrong != 0) {
            System.exit(1);
        }
    }
}
