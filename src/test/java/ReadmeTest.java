import java.io.IOException;
import java.lang.reflect.Method;
import java.nio.file.Files;
import java.nio.file.Path;
import java.util.ArrayList;
import java.util.List;
import java.util.Set;
import java.util.TreeSet;
import java.util.regex.Matcher;
import java.util.regex.Pattern;

/** What README.md says of the use: each call of its examples and each script of its tables. */
final class ReadmeTest {
    private static final Pattern MAKE = Pattern.compile("StepPrograms p = new StepPrograms\\(\\);");
    private static final Pattern WRITE = Pattern.compile("write\\(p, \"(.*)\"\\);");
    private static final Pattern CALL = Pattern.compile("p\\.(\\w+)\\((.*?)\\);\\s+// (-?\\w+).*");
    private static final Pattern ROW = Pattern.compile("\\|.*\\| `([^`]*)` \\| (\\d+) \\|");

    private static final Set<String> called = new TreeSet<>();
    private static StepPrograms p;

    public static void main(String[] args) throws Exception {
        List<String> readme = Files.readAllLines(Path.of("README.md"));
        theHelperIsTheOneUsedHere(readme);
        theExamples(readme);
        everyMethodIsShown();
        theTables(readme);
        Calls.finish();
    }

    static void write(StepPrograms p, String source) {
        for (int i = 0; i < source.length(); i += 8) {
            long w = 0;
            for (int k = i; k < Math.min(i + 8, source.length()); k++) {
                w = w << 8 | source.charAt(k);
            }
            p.text(w);
        }
    }

    /** The lines of each java block, its fences left out. */
    private static List<List<String>> blocks(List<String> readme) {
        List<List<String>> blocks = new ArrayList<>();
        boolean inside = false;
        for (String line : readme) {
            if (line.startsWith("```")) {
                inside = line.equals("```java");
                if (inside) {
                    blocks.add(new ArrayList<>());
                }
            } else if (inside) {
                blocks.get(blocks.size() - 1).add(line);
            }
        }
        return blocks;
    }

    private static boolean isHelper(List<String> block) {
        return block.get(0).startsWith("static void write");
    }

    private static void theHelperIsTheOneUsedHere(List<String> readme) throws IOException {
        List<String> own = Files.readAllLines(Path.of("src/test/java/ReadmeTest.java"));
        for (List<String> block : blocks(readme)) {
            if (isHelper(block)) {
                String wanted = String.join("\n", block).replaceAll("(?m)^", "    ");
                Calls.due("the helper stands in this test", String.join("\n", own).contains(wanted), true);
            }
        }
    }

    private static void theExamples(List<String> readme) throws Exception {
        for (List<String> block : blocks(readme)) {
            for (String line : block) {
                if (!isHelper(block) && !line.isBlank()) {
                    follow(line);
                }
            }
        }
    }

    /** A line of another shape would go untested, so it is a fault of the README. */
    private static void follow(String line) throws Exception {
        Matcher write = WRITE.matcher(line);
        Matcher call = CALL.matcher(line);
        if (MAKE.matcher(line).matches()) {
            p = new StepPrograms();
        } else if (write.matches()) {
            write(p, write.group(1).replace("\\n", "\n"));
        } else if (call.matches()) {
            Calls.due(line, answer(call.group(1), call.group(2).split(", ")), call.group(3));
        } else {
            Calls.due("README: " + line, "no call", "a call");
        }
    }

    private static String answer(String name, String[] arguments) throws Exception {
        called.add(name);
        for (Method m : StepPrograms.class.getMethods()) {
            if (m.getName().equals(name)) {
                Class<?>[] types = m.getParameterTypes();
                Object[] values = new Object[types.length];
                for (int i = 0; i < types.length; i++) {
                    values[i] = valueOf(arguments[i], types[i]);
                }
                return String.valueOf(m.invoke(p, values));
            }
        }
        return "no such method";
    }

    private static Object valueOf(String written, Class<?> type) {
        if (type == boolean.class) {
            return written.equals("true");
        }
        long value = Long.decode(written.replace("L", ""));
        if (type == int.class) {
            return (int) value;
        }
        return value;
    }

    private static void everyMethodIsShown() {
        Set<String> face = new TreeSet<>();
        for (Method m : StepPrograms.class.getDeclaredMethods()) {
            if ((m.getModifiers() & java.lang.reflect.Modifier.PUBLIC) != 0) {
                face.add(m.getName());
            }
        }
        Calls.due("methods in the examples", called.toString(), face.toString());
    }

    /** Rows that end with a script, its lines apart by ;, and the exit of its run. */
    private static void theTables(List<String> readme) {
        Set<String> words = new TreeSet<>();
        Set<Integer> exits = new TreeSet<>();
        for (String line : readme) {
            Matcher row = ROW.matcher(line);
            if (row.matches()) {
                String source = row.group(1).replace("; ", "\n");
                int exit = Integer.parseInt(row.group(2));
                Calls c = new Calls().with(0, source);
                Calls.due(line, c.x.run(0, 0, 500), exit);
                exits.add(exit);
                for (String statement : source.split("\n")) {
                    words.add(statement.split(" ")[0]);
                }
            }
        }
        Calls.due("each statement is shown", words.containsAll(Set.of("let", "get", "put", "size", "read", "write",
            "drop", "copy", "out", "err", "go", "if", "call", "back", "run", "ask", "exit")), true);
        Calls.due("each exit is shown", exits.containsAll(Set.of(101, 102, 103, 104, 105, 106, 107)), true);
    }
}
