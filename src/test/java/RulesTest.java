import java.io.IOException;
import java.lang.reflect.Field;
import java.lang.reflect.Method;
import java.lang.reflect.Modifier;
import java.nio.file.Files;
import java.nio.file.Path;
import java.util.ArrayList;
import java.util.HashSet;
import java.util.List;
import java.util.Set;
import java.util.regex.Pattern;

/** Those rules of LANGUAGE.md that can be seen from the compiled class and from its text. */
final class RulesTest {
    public static void main(String[] args) throws IOException {
        classesInside();
        staticFieldsAreFinal();
        namesAndParameters();
        fieldsOfAClass();
        wordsLeftOut();
        Calls.finish();
    }

    private static List<Class<?>> classes() {
        List<Class<?>> all = new ArrayList<>(List.of(StepPrograms.class));
        all.addAll(List.of(StepPrograms.class.getDeclaredClasses()));
        return all;
    }

    private static void classesInside() {
        Calls.due("at most twelve classes", classes().size() <= 12, true);
        for (Class<?> inside : StepPrograms.class.getDeclaredClasses()) {
            int kind = inside.getModifiers();
            Calls.due(inside + " is static", Modifier.isStatic(kind), true);
            Calls.due(inside + " is hidden", Modifier.isPublic(kind) || Modifier.isProtected(kind), false);
            Calls.due(inside + " has none inside", inside.getDeclaredClasses().length, 0);
        }
    }

    private static void staticFieldsAreFinal() {
        for (Class<?> each : classes()) {
            for (Field f : each.getDeclaredFields()) {
                if (Modifier.isStatic(f.getModifiers()) && !f.isSynthetic()) {
                    Calls.due(f + " is final", Modifier.isFinal(f.getModifiers()), true);
                }
            }
        }
    }

    private static void namesAndParameters() {
        Set<String> face = new HashSet<>();
        for (Method m : StepPrograms.class.getDeclaredMethods()) {
            if (Modifier.isPublic(m.getModifiers())) {
                Calls.due("one method of the name " + m.getName(), face.add(m.getName()), true);
            }
        }
        for (Class<?> each : classes()) {
            for (Method m : each.getDeclaredMethods()) {
                Calls.due(m + " takes at most seven", m.getParameterCount() <= 7, true);
                boolean ofTheFace = each == StepPrograms.class && Modifier.isPublic(m.getModifiers());
                Calls.due(m + " has a public one's name", !ofTheFace && face.contains(m.getName()), false);
            }
        }
    }

    private static void fieldsOfAClass() {
        for (Class<?> each : classes()) {
            int own = 0;
            for (Field f : each.getDeclaredFields()) {
                own += Modifier.isStatic(f.getModifiers()) ? 0 : 1;
            }
            Calls.due(each + " has at most twenty fields", own <= 20, true);
        }
    }

    /** The document asks for no exception, so none is thrown and none is caught. */
    private static void wordsLeftOut() throws IOException {
        String text = Files.readString(Path.of("src/main/java/StepPrograms.java"))
            .replaceAll("(?s)/\\*.*?\\*/", "").replaceAll("//.*", "");
        String[] wrong = {"\\bthrows?\\b", "\\btry\\b", "\\bcatch\\b", "\\bfinally\\b", "\\bsynchronized\\b",
            "\\bassert\\b", "\\bnative\\b", "\\bprotected\\b", "\\bpackage\\b", "Exact\\b", "\\bhashCode\\b",
            "\\btoString\\b", "\\bSystem\\.(?!arraycopy\\b)", "\\bThread\\b", "->", "::"};
        for (String words : wrong) {
            Calls.due("the text has " + words, Pattern.compile(words).matcher(text).find(), false);
        }
        for (String line : text.split("\n")) {
            if (line.startsWith("import")) {
                boolean listed = line.matches("import java\\.util\\.(ArrayList|Arrays|List|Iterator);");
                Calls.due("listed: " + line, listed, true);
            }
        }
    }
}
