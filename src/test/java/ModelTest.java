import java.util.ArrayList;
import java.util.HashMap;
import java.util.List;
import java.util.Map;
import java.util.Random;
import java.util.TreeMap;

/**
 * All promises at once: many calls, drawn from a fixed seed, on the class and on a plain model
 * that interprets the texts themselves. Also: no call throws, whatever its arguments.
 */
final class ModelTest {
    private static final int ROUNDS = 10000;

    public static void main(String[] args) {
        for (int seed = 0; seed < ROUNDS; seed++) {
            new Round(seed).play();
        }
        Calls.finish();
    }

    /** The document again, word by word, with no thought of speed or room. */
    private static final class Model {
        static final class Ends extends RuntimeException {
            final int exit;

            Ends(int exit) {
                this.exit = exit;
            }
        }

        String tape = "";
        final Map<Integer, String[]> programs = new HashMap<>();
        final Map<Integer, List<Integer>> files = new TreeMap<>();
        final boolean[] planted = new boolean[3];
        final List<List<Integer>> said = List.of(new ArrayList<>(), new ArrayList<>());
        int[] registers = new int[8];
        int[] about = null;
        int bound;

        boolean text(long w) {
            String more = "";
            for (int i = 56; i >= 0; i -= 8) {
                long c = w >>> i & 255;
                if (c != 0) {
                    more += (char) c;
                }
            }
            if (!more.matches("[\n -~]*") || tape.length() + more.length() > 400) {
                return false;
            }
            tape += more;
            return true;
        }

        static String[] linesOf(String text) {
            List<String> lines = new ArrayList<>();
            String rest = text;
            while (!rest.isEmpty()) {
                int end = rest.indexOf('\n');
                lines.add(end < 0 ? rest : rest.substring(0, end));
                rest = end < 0 ? "" : rest.substring(end + 1);
            }
            return lines.toArray(new String[0]);
        }

        static boolean isLabel(String line) {
            return line.matches(" *[A-Z]: *");
        }

        static boolean isStatement(String line) {
            String r = " +[a-h]";
            String x = " +([a-h]|-?[0-9]{1,6})";
            return line.matches(" *(let" + r + x + "|let" + r + x + " +[-+*/%&|^<=]" + x + "|get" + r + x + "|put" + x + x
                + "|size" + r + x + "|read" + r + x + x + "|write" + x + x + "|drop" + x + "|copy" + x + x + "|out" + x
                + "|err" + x + "|go +[A-Z]|if" + x + " +[<=>]" + x + " +go +[A-Z]|call +[A-Z]|back|run" + r + x + x
                + "|ask" + r + x + "|exit" + x + ") *");
        }

        int load(int program) {
            String[] lines = linesOf(tape);
            tape = "";
            if (program < 0 || program > 3) {
                return -2;
            }
            String labels = "";
            for (int i = 0; i < lines.length; i++) {
                if (isLabel(lines[i])) {
                    String letter = lines[i].trim().substring(0, 1);
                    if (labels.contains(letter)) {
                        return i;
                    }
                    labels += letter;
                } else if (!lines[i].isBlank() && !isStatement(lines[i])) {
                    return i;
                }
            }
            for (int i = 0; i < lines.length; i++) {
                String line = lines[i].trim();
                if (line.matches("(go|if|call) .*") && !labels.contains(line.substring(line.length() - 1))) {
                    return i;
                }
            }
            programs.put(program, lines);
            return -1;
        }

        boolean file(int file, long w, int n) {
            if (file < 0 || file > 9 || n < 1 || n > 8) {
                return false;
            }
            if (files.containsKey(file) && files.get(file).size() + n > 40) {
                return false;
            }
            files.putIfAbsent(file, new ArrayList<>());
            for (int i = n - 1; i >= 0; i--) {
                files.get(file).add((int) (w >>> 8 * i & 255));
            }
            return true;
        }

        boolean clear(int file, boolean on) {
            if (file < 0 || file > 9) {
                return false;
            }
            files.remove(file);
            if (on) {
                files.put(file, new ArrayList<>());
            }
            return true;
        }

        boolean plant(int what, boolean on) {
            if (what < 0 || what > 2) {
                return false;
            }
            planted[what] = on;
            return true;
        }

        int run(int program, int argument, int bound) {
            if (!programs.containsKey(program) || bound < 1 || bound > 2000) {
                return -1;
            }
            this.bound = bound;
            about = new int[6];
            said.get(0).clear();
            said.get(1).clear();
            registers = new int[8];
            int exit;
            try {
                exit = follow(programs.get(program), registers, argument, 0);
            } catch (Ends e) {
                exit = e.exit;
            }
            about[1] = said.get(0).size();
            about[2] = said.get(1).size();
            return exit;
        }

        int follow(String[] lines, int[] r, int argument, int depth) {
            int[] cells = new int[32];
            List<Integer> open = new ArrayList<>();
            r[0] = argument;
            about[5]++;
            about[3] = Math.max(about[3], depth);
            int line = 0;
            while (true) {
                if (depth == 0) {
                    about[4] = line;
                }
                if (line >= lines.length) {
                    return 0;
                }
                if (lines[line].isBlank() || isLabel(lines[line])) {
                    line++;
                    continue;
                }
                if (about[0] == bound) {
                    throw new Ends(107);
                }
                about[0]++;
                String[] w = lines[line].trim().split(" +");
                if (w[0].equals("exit")) {
                    return Math.floorMod(value(w[1], r), 64);
                }
                int next = line + 1;
                int exit = -1;
                switch (w[0]) {
                    case "go" -> next = placeOf(lines, w[1]);
                    case "if" -> next = holds(value(w[1], r), w[2], value(w[3], r)) ? placeOf(lines, w[5]) : next;
                    case "call" -> {
                        exit = open.size() == 8 ? 105 : -1;
                        open.add(next);
                        next = placeOf(lines, w[1]);
                    }
                    case "back" -> {
                        exit = open.isEmpty() ? 105 : -1;
                        next = open.isEmpty() ? next : open.remove(open.size() - 1);
                    }
                    case "get", "put" -> exit = cell(w, r, cells);
                    case "run" -> exit = child(w, r, depth);
                    case "ask" -> exit = ask(w, r, 1000 * depth + line);
                    case "let" -> exit = let(w, r);
                    default -> exit = onFiles(w, r);
                }
                if (exit >= 0) {
                    return exit;
                }
                line = next;
            }
        }

        static int value(String word, int[] r) {
            return word.matches("[a-h]") ? r[word.charAt(0) - 'a'] : Integer.parseInt(word);
        }

        static void set(String word, int[] r, int value) {
            r[word.charAt(0) - 'a'] = value;
        }

        static int placeOf(String[] lines, String letter) {
            for (int i = 0; i < lines.length; i++) {
                if (lines[i].trim().equals(letter + ":")) {
                    return i;
                }
            }
            throw new AssertionError(letter);
        }

        static boolean holds(int x, String c, int y) {
            int order = Integer.compare(x, y);
            return c.equals("<") ? order < 0 : c.equals("=") ? order == 0 : order > 0;
        }

        static int let(String[] w, int[] r) {
            int x = value(w[2], r);
            if (w.length == 3) {
                set(w[1], r, x);
                return -1;
            }
            long l = x;
            long y = value(w[4], r);
            if (y == 0 && "/%".contains(w[3])) {
                return 103;
            }
            set(w[1], r, (int) switch (w[3]) {
                case "+" -> l + y;
                case "-" -> l - y;
                case "*" -> l * y;
                case "/" -> l / y;
                case "%" -> l % y;
                case "&" -> l & y;
                case "|" -> l | y;
                case "^" -> l ^ y;
                default -> holds(x, w[3], (int) y) ? 1 : 0;
            });
            return -1;
        }

        static int cell(String[] w, int[] r, int[] cells) {
            boolean get = w[0].equals("get");
            int cell = value(get ? w[2] : w[1], r);
            if (cell < 0 || cell > 31) {
                return 102;
            }
            if (get) {
                set(w[1], r, cells[cell]);
            } else {
                cells[cell] = value(w[2], r);
            }
            return -1;
        }

        int child(String[] w, int[] r, int depth) {
            int program = value(w[2], r);
            if (!programs.containsKey(program)) {
                return 102;
            }
            if (depth == 3) {
                return 105;
            }
            set(w[1], r, follow(programs.get(program), new int[8], value(w[3], r), depth + 1));
            return -1;
        }

        int ask(String[] w, int[] r, int address) {
            int what = value(w[2], r);
            if (what < 0 || what > 2) {
                return 102;
            }
            if (!planted[what]) {
                return 106;
            }
            set(w[1], r, what == 0 ? about[0] - 1 : what == 1 ? about[5] : address);
            return -1;
        }

        int onFiles(String[] w, int[] r) {
            boolean sets = w[0].equals("size") || w[0].equals("read");
            int x = value(w[sets ? 2 : 1], r);
            if (w[0].equals("out") || w[0].equals("err")) {
                return behind(said.get(w[0].equals("out") ? 0 : 1), x, 60);
            }
            if (x < 0 || x > 9) {
                return 102;
            }
            List<Integer> file = files.get(x);
            if (w[0].equals("size")) {
                set(w[1], r, file == null ? -1 : file.size());
                return -1;
            }
            if (w[0].equals("write")) {
                return behind(files.computeIfAbsent(x, k -> new ArrayList<>()), value(w[2], r), 40);
            }
            int y = w[0].equals("copy") ? value(w[2], r) : 0;
            if (y < 0 || y > 9) {
                return 102;
            }
            if (file == null) {
                return 101;
            }
            if (w[0].equals("drop")) {
                files.remove(x);
            } else if (w[0].equals("copy")) {
                files.put(y, new ArrayList<>(file));
            } else {
                int i = value(w[3], r);
                if (i < 0 || i >= file.size()) {
                    return 102;
                }
                set(w[1], r, file.get(i));
            }
            return -1;
        }

        static int behind(List<Integer> row, int b, int limit) {
            if (row.size() == limit) {
                return 104;
            }
            row.add(b & 255);
            return -1;
        }

        int about(int what) {
            return about == null || what < 0 || what > 5 ? -1 : about[what];
        }

        static int at(List<Integer> row, int i) {
            return row == null || i < 0 || i >= row.size() ? -1 : row.get(i);
        }

        int said(int which, int i) {
            return which < 0 || which > 1 ? -1 : at(said.get(which), i);
        }

        int register(int k) {
            return k < 0 || k > 7 ? 0 : registers[k];
        }

        int size(int file) {
            return files.containsKey(file) ? files.get(file).size() : -1;
        }

        int byteOf(int file, int i) {
            return at(files.get(file), i);
        }
    }

    /** A run of calls from one seed, on both: at most the 512 that an object is promised for. */
    private static final class Round {
        private static final int LAST_CALL = 512;
        /** What a call and the look at all behind it may take. */
        private static final int CALLS_LEFT = 150;
        private static final int[] ODD = {-1, -2, 4, 8, 10, 31, 32, 40, 60, 2001, 1000000, 1000001, 1000007, -1000000,
            Integer.MIN_VALUE, Integer.MAX_VALUE};
        private static final String[] FORMS = {"let R X", "let R X O X", "let R X O X", "get R S", "put S X", "size R S", "read R S S",
            "write S X", "drop S", "copy S S", "out X", "err X", "go L", "if X C X go L", "if X C X go L", "call L", "back", "run R S X",
            "run R S X", "ask R S", "exit X"};
        private final String name;
        private final Random random;
        private final StepPrograms x = new StepPrograms();
        private final Model model = new Model();
        private int calls;

        Round(int seed) {
            name = "seed " + seed + ": ";
            random = new Random(seed);
        }

        void play() {
            for (int i = 0; i < 3; i++) {
                loadSome();
            }
            while (calls < LAST_CALL - CALLS_LEFT) {
                callSome();
            }
            compareAll();
        }

        private void due(String what, long got, long want) {
            calls++;
            if (calls <= LAST_CALL) {
                Calls.due(name + what, got, want);
            }
        }

        private void due(String what, boolean got, boolean want) {
            due(what, got ? 1 : 0, want ? 1 : 0);
        }

        private int draw(int n) {
            return random.nextInt(n);
        }

        private int number(int n) {
            return draw(12) == 0 ? ODD[draw(ODD.length)] : draw(n);
        }

        private String pick(String... words) {
            return words[draw(words.length)];
        }

        private String operand(boolean small) {
            if (draw(3) == 0) {
                return pick("a", "b", "c", "h");
            }
            return small ? "" + draw(5) : pick("0", "1", "2", "-1", "7", "-13", "999999", "-999999", "300", "31", "10", "000003");
        }

        private String word(char kind) {
            switch (kind) {
                case 'R':
                    return pick("a", "b", "c", "h");
                case 'X':
                    return operand(false);
                case 'S':
                    return operand(draw(8) != 0);
                case 'O':
                    return pick("+", "-", "*", "/", "%", "&", "|", "^", "<", "=");
                case 'C':
                    return pick("<", "=", ">");
                default:
                    return pick("A", "B");
            }
        }

        private String statement() {
            StringBuilder line = new StringBuilder();
            for (String part : pick(FORMS).split(" ")) {
                line.append(part.length() == 1 ? word(part.charAt(0)) : part).append(draw(20) == 0 ? "  " : " ");
            }
            return draw(3) == 0 ? line.toString() : line.toString().trim();
        }

        private String source() {
            StringBuilder text = new StringBuilder();
            int lines = 1 + draw(18);
            int a = draw(lines);
            int b = draw(lines);
            for (int i = 0; i < lines; i++) {
                text.append(i == a ? "A:\n" : "").append(i == b ? " B: \n" : "");
                text.append(draw(25) == 0 ? "" : statement()).append('\n');
            }
            if (draw(4) == 0) {
                text.setLength(text.length() - 1);
            }
            if (draw(5) == 0 && text.length() > 0) {
                text.setCharAt(draw(text.length()), (char) (32 + draw(95)));
            }
            return text.toString();
        }

        private void loadSome() {
            String text = source();
            for (int i = 0; i < text.length(); ) {
                int n = Math.min(draw(4) == 0 ? 1 + draw(8) : 8, text.length() - i);
                textOnBoth(Calls.packed(text.substring(i, i + n)));
                i += n;
            }
            int program = draw(20) == 0 ? number(4) : draw(4);
            due("load", x.load(program), model.load(program));
        }

        private void textOnBoth(long w) {
            due("text", x.text(w), model.text(w));
        }

        private void callSome() {
            int k = number(10);
            int n = number(9);
            boolean on = draw(3) != 0;
            switch (draw(9)) {
                case 0 -> loadSome();
                case 1 -> {
                    long w = random.nextLong();
                    due("file", x.file(k, w, n), model.file(k, w, n));
                }
                case 2 -> due("clear", x.clear(k, on), model.clear(k, on));
                case 3 -> {
                    int what = number(3);
                    due("plant", x.plant(what, on), model.plant(what, on));
                }
                case 4 -> {
                    if (draw(8) == 0) {
                        textOnBoth(random.nextLong());
                    } else {
                        lookSomewhere();
                    }
                }
                default -> runSome();
            }
        }

        private void runSome() {
            int program = number(4);
            int argument = number(10);
            int bound = draw(3) == 0 ? 1 + draw(30) : draw(4) == 0 ? number(2001) : 1 + draw(400);
            due("run", x.run(program, argument, bound), model.run(program, argument, bound));
            compareAll();
        }

        private void compareAll() {
            for (int what = -1; what < 7; what++) {
                due("about " + what, x.about(what), model.about(what));
            }
            for (int k = -1; k < 9; k++) {
                due("register " + k, x.register(k), model.register(k));
            }
            for (int which = 0; which < 2; which++) {
                for (int i = 0; i <= model.said.get(which).size(); i++) {
                    due("said " + which, x.said(which, i), model.said(which, i));
                }
            }
            for (int file = 0; file < 10; file++) {
                due("size " + file, x.size(file), model.size(file));
                for (int i = 0; i < model.size(file); i++) {
                    due("byteOf " + file, x.byteOf(file, i), model.byteOf(file, i));
                }
            }
        }

        private void lookSomewhere() {
            int k = number(10);
            int i = number(60);
            due("said", x.said(k & 1, i), model.said(k & 1, i));
            due("said of any", x.said(k, i), model.said(k, i));
            due("size", x.size(k), model.size(k));
            due("byteOf", x.byteOf(k, i), model.byteOf(k, i));
            due("register", x.register(k), model.register(k));
            due("about", x.about(k), model.about(k));
        }
    }
}
