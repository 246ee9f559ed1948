import java.io.IOException;
import java.lang.reflect.Executable;
import java.lang.reflect.Field;
import java.lang.reflect.Modifier;
import java.nio.file.Files;
import java.nio.file.Path;
import java.util.ArrayList;
import java.util.List;
import java.util.Set;
import java.util.regex.Matcher;
import java.util.regex.Pattern;

/** Looks at those rules of LANGUAGE.md, by their numbers, that can be seen from the text or the classes. */
public final class TheLanguage extends Checks {
    private static final Path PROGRAM = Path.of("src/main/java/LabelledFlows.java");
    private static final Set<String> IMPORTS = Set.of(
            "java.util.Arrays", "java.util.ArrayList", "java.util.List", "java.util.Iterator");
    private static final Set<Class<?>> CONSTANTS = Set.of(
            int.class, long.class, boolean.class, char.class, String.class,
            int[].class, long[].class, char[].class, byte[].class);
    private static final Set<String> CALLED_OF_LIBRARY = Set.of(
            "System.arraycopy", "Arrays.copyOf", "Arrays.copyOfRange", "Arrays.fill");
    private static final int MOST_LINES = 60;
    private static final int MOST_PARAMETERS = 7;
    private static final int MOST_CLASSES = 12;
    private static final int MOST_FIELDS = 20;

    /** The program's text with its comments blank, so that its lines stay where they are. */
    private static String withoutComments(String text) {
        return text.replaceAll("(?m)//.*$", "").replaceAll("(?m)^ *(/\\*\\*|\\*).*$", "");
    }

    private static void hasNone(String code, String rule, String... patterns) {
        for (String pattern : patterns) {
            Matcher found = Pattern.compile(pattern).matcher(code);
            due(rule + ": none of " + pattern, found.find(), false);
        }
    }

    private static void checkText(String code) {
        hasNone(code, "the program has no package line", "\\bpackage\\b");
        hasNone(code, "rule 2", "->", "::");
        hasNone(code, "rule 4", "\\w+Exact\\b");
        hasNone(code, "rule 5", "\\bstatic\\s*\\{");
        hasNone(code, "rule 6", "\\bthrows?\\b", "\\btry\\b", "\\bcatch\\b", "\\bsynchronized\\b", "\\bassert\\b",
                "\\b(equals|hashCode|toString)\\b");
        hasNone(code, "rule 9", "\\bwhile\\s*\\(true\\)", "for\\s*\\(;", "for\\s*\\([^;]*;\\s*;");
        hasNone(code, "rule 13", "\\b(Random|Thread|File|Files)\\b", "\\bSystem\\.(?!arraycopy)");
        Matcher imports = Pattern.compile("(?m)^import (.*);").matcher(code);
        while (imports.find()) {
            due("rule 4: import of " + imports.group(1), IMPORTS.contains(imports.group(1)), true);
        }
        Matcher calls = Pattern.compile("\\b(System|Arrays)\\.\\w+(?=\\()").matcher(code);
        while (calls.find()) {
            due("rule 4: " + calls.group(), CALLED_OF_LIBRARY.contains(calls.group()), true);
        }
    }

    /** A method's head stands at one of two indents, its last brace alone at the same one. */
    private static void checkLengths(String code) {
        Matcher methods = Pattern.compile("(?ms)^( {4}| {8})(?! )[^;=\\n]*?(\\w+)\\([^;{]*\\{$(.*?)^\\1\\}$")
                .matcher(code);
        int found = 0;
        while (methods.find()) {
            found++;
            long lines = methods.group().lines().count();
            due("rule 11: " + methods.group(2) + " is short: " + lines, lines <= MOST_LINES, true);
        }
        due("methods were found in the text", found >= 17, true);
    }

    private static void checkClass(Class<?> type) {
        int fields = 0;
        for (Field field : type.getDeclaredFields()) {
            if (Modifier.isStatic(field.getModifiers())) {
                due("rule 5: " + field + " is final", Modifier.isFinal(field.getModifiers()), true);
                due("rule 5: " + field, CONSTANTS.contains(field.getType()), true);
            } else {
                fields++;
            }
        }
        due("rule 11: fields of " + type, fields <= MOST_FIELDS, true);
        List<Executable> all = new ArrayList<>(List.of(type.getDeclaredMethods()));
        all.addAll(List.of(type.getDeclaredConstructors()));
        for (Executable one : all) {
            due("rule 11: parameters of " + one, one.getParameterCount() <= MOST_PARAMETERS, true);
        }
        due("rule 2: " + type, type.isAnonymousClass() || type.isLocalClass(), false);
    }

    private static void checkNames(Class<?> inside) {
        for (var method : LabelledFlows.class.getDeclaredMethods()) {
            for (var other : inside.getDeclaredMethods()) {
                boolean same = Modifier.isPublic(method.getModifiers())
                        && method.getName().equals(other.getName());
                due("rule 1: " + other + " bears the name of a public one", same, false);
            }
        }
    }

    public static void main(String[] args) throws IOException {
        String code = withoutComments(Files.readString(PROGRAM));
        checkText(code);
        checkLengths(code);
        checkClass(LabelledFlows.class);
        Class<?>[] inside = LabelledFlows.class.getDeclaredClasses();
        due("rule 11: classes", inside.length + 1 <= MOST_CLASSES, true);
        for (Class<?> type : inside) {
            checkClass(type);
            checkNames(type);
            due("rule 2: " + type + " is static", Modifier.isStatic(type.getModifiers()), true);
        }
        finish();
    }
}
