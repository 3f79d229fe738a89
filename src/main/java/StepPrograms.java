import java.util.ArrayList;
import java.util.Arrays;

/**
 * Small scripts over a few files. A text is checked once, when it is loaded, so that a run
 * meets only statements that are well formed; a run uses nothing but rows made beforehand.
 */
public final class StepPrograms {
    public static final int NONE = -1;

    private static final int NO_SUCH_NUMBER = -2;

    private static final int FILES = 10;
    private static final int LONGEST_FILE = 40;
    private static final int PROGRAMS = 4;
    private static final int LONGEST_TEXT = 400;
    private static final int LONGEST_SPEECH = 60;
    private static final int THINGS_TO_ASK = 3;
    private static final int LARGEST_BOUND = 2000;
    private static final int DEEPEST = 3;
    private static final int REGISTERS = 8;
    private static final int CELLS = 32;
    private static final int OPEN_CALLS = 8;
    private static final int LETTERS = 26;
    private static final int BYTES_OF_LONG = 8;

    private static final int LINE_END = 10;
    private static final int BLANK = 32;
    private static final int LAST_CHARACTER = 126;

    /** An operand is one int: NUMBERS have six digits, so these two lie outside of them. */
    private static final int REGISTERS_FROM = 1000000;
    private static final int NO_OPERAND = -1000000;

    /** What a statement answers if its program doesn't end there; no EXIT is negative. */
    private static final int GOES_ON = -1;
    private static final int EXIT_FINE = 0;
    private static final int EXIT_NOT_THERE = 101;
    private static final int EXIT_NOT_ONE = 102;
    private static final int EXIT_BY_ZERO = 103;
    private static final int EXIT_FULL = 104;
    private static final int EXIT_CALLS = 105;
    private static final int EXIT_NOT_PLANTED = 106;
    private static final int EXIT_BOUND = 107;

    private final Tape tape;
    private final Machine machine;

    public StepPrograms() {
        tape = new Tape();
        machine = new Machine();
    }

    public boolean text(long w) {
        int count = 0;
        for (int i = BYTES_OF_LONG - 1; i >= 0; i--) {
            int c = byteAt(w, i);
            if (c != 0) {
                if (!isCharacter(c)) {
                    return false;
                }
                count++;
            }
        }
        if (!tape.row.hasRoomFor(count)) {
            return false;
        }
        for (int i = BYTES_OF_LONG - 1; i >= 0; i--) {
            int c = byteAt(w, i);
            if (c != 0) {
                tape.row.add(c);
            }
        }
        return true;
    }

    public int load(int program) {
        if (program < 0 || program >= PROGRAMS) {
            tape.row.makeEmpty();
            return NO_SUCH_NUMBER;
        }
        Script script = new Script();
        int ill = tape.check(script);
        tape.row.makeEmpty();
        if (ill == NONE) {
            machine.scripts[program] = script;
        }
        return ill;
    }

    public boolean file(int file, long w, int n) {
        Row row = machine.fileAt(file);
        if (row == null || n < 1 || n > BYTES_OF_LONG || !row.hasRoomFor(n)) {
            return false;
        }
        for (int i = n - 1; i >= 0; i--) {
            row.add(byteAt(w, i));
        }
        return true;
    }

    public boolean clear(int file, boolean on) {
        Row row = machine.fileAt(file);
        if (row == null) {
            return false;
        }
        if (on) {
            row.makeEmpty();
        } else {
            row.remove();
        }
        return true;
    }

    public boolean plant(int what, boolean on) {
        if (what < 0 || what >= THINGS_TO_ASK) {
            return false;
        }
        machine.planted[what] = on;
        return true;
    }

    public int run(int program, int argument, int bound) {
        Script script = machine.scriptAt(program);
        if (script == null || bound < 1 || bound > LARGEST_BOUND) {
            return NONE;
        }
        return machine.start(script, argument, bound);
    }

    public int about(int what) {
        if (!machine.hasRun) {
            return NONE;
        }
        switch (what) {
            case 0:
                return machine.steps;
            case 1:
                return machine.out.count;
            case 2:
                return machine.err.count;
            case 3:
                return machine.deepest;
            case 4:
                return machine.first.line;
            case 5:
                return machine.begun;
            default:
                return NONE;
        }
    }

    public int said(int which, int i) {
        if (which == 0) {
            return machine.out.at(i);
        }
        return which == 1 ? machine.err.at(i) : NONE;
    }

    public int register(int k) {
        return k >= 0 && k < REGISTERS ? machine.first.registers[k] : 0;
    }

    public int size(int file) {
        Row row = machine.fileAt(file);
        return row == null ? NONE : row.countIfThere();
    }

    public int byteOf(int file, int i) {
        Row row = machine.fileAt(file);
        return row == null ? NONE : row.at(i);
    }

    /** Byte i of a number, 0 being the lowest. */
    private static int byteAt(long w, int i) {
        return (int) (w >>> (8 * i)) & 255;
    }

    private static boolean isCharacter(int c) {
        return c == LINE_END || c >= BLANK && c <= LAST_CHARACTER;
    }

    /** Bytes up to a limit: a FILE, the TAPE, OUT or ERR. Only a FILE may be not there. */
    private static final class Row {
        final int[] bytes;
        int count;
        boolean there;

        Row(int limit) {
            bytes = new int[limit];
        }

        boolean hasRoomFor(int more) {
            return more <= bytes.length - count;
        }

        /** Callers have asked hasRoomFor before: what they say when it is full differs. */
        void add(int b) {
            if (count < bytes.length) {
                bytes[count] = b & 255;
                count++;
                there = true;
            }
        }

        void makeEmpty() {
            count = 0;
            there = true;
        }

        void remove() {
            count = 0;
            there = false;
        }

        void become(Row other) {
            int n = Math.min(other.count, bytes.length);
            System.arraycopy(other.bytes, 0, bytes, 0, n);
            count = n;
            there = other.there;
        }

        int at(int i) {
            return i >= 0 && i < count ? bytes[i] : NONE;
        }

        int countIfThere() {
            return there ? count : NONE;
        }
    }

    /**
     * The forms of a STATEMENT: its first word, and a letter for each word behind it, as the
     * document names them (R, X, Y, O, C, L), but g for the word go.
     */
    private enum Form {
        LET("let", "RX"),
        CALCULATE("let", "RXOY"),
        GET("get", "RX"),
        PUT("put", "XY"),
        SIZE("size", "RX"),
        READ("read", "RXY"),
        WRITE("write", "XY"),
        DROP("drop", "X"),
        COPY("copy", "XY"),
        OUT("out", "X"),
        ERR("err", "X"),
        GO("go", "L"),
        IF("if", "XCYgL"),
        CALL("call", "L"),
        BACK("back", ""),
        RUN("run", "RXY"),
        ASK("ask", "RX"),
        EXIT("exit", "X");

        final String word;
        final String kinds;

        Form(String word, String kinds) {
            this.word = word;
            this.kinds = kinds;
        }
    }

    /** A STATEMENT as it was read; what its form doesn't have is never looked at. */
    private static final class Statement {
        final int line;
        final Form form;
        final int into;
        final int left;
        final int sign;
        final int right;
        final int label;

        Statement(int line, Form form, int into, int left, int sign, int right, int label) {
            this.line = line;
            this.form = form;
            this.into = into;
            this.left = left;
            this.sign = sign;
            this.right = right;
            this.label = label;
        }
    }

    /** A PROGRAM's STATEMENTS alone, so that a run needn't skip LABELS and empty LINES. */
    private static final class Script {
        final ArrayList<Statement> statements = new ArrayList<>();
        /** For each letter the statement behind its LABEL, or NONE. */
        final int[] places = new int[LETTERS];
        int lines;

        Script() {
            Arrays.fill(places, NONE);
        }

        Statement at(int i) {
            return i >= 0 && i < statements.size() ? statements.get(i) : null;
        }

        int placeOf(int label) {
            return label >= 0 && label < LETTERS ? places[label] : NONE;
        }

        boolean addLabel(int label) {
            if (label < 0 || label >= LETTERS || places[label] != NONE) {
                return false;
            }
            places[label] = statements.size();
            return true;
        }

        int lineOfMissingLabel() {
            for (int i = 0; i < statements.size(); i++) {
                Statement s = statements.get(i);
                if (s.label != NONE && placeOf(s.label) == NONE) {
                    return s.line;
                }
            }
            return NONE;
        }
    }

    /** The TAPE, and what of its present LINE has been read. */
    private static final class Tape {
        private static final Form[] FORMS = Form.values();
        private static final int MOST_WORDS = 6;
        private static final int MOST_DIGITS = 6;
        private static final String OPERATORS = "+-*/%&|^<=";
        private static final String COMPARISONS = "<=>";

        final Row row = new Row(LONGEST_TEXT);
        private final int[] from = new int[MOST_WORDS];
        private final int[] to = new int[MOST_WORDS];
        private int words;
        private int into;
        private int left;
        private int sign;
        private int right;
        private int label;

        /** Fills an empty script; answers the LINE at which the text is ILL, or NONE. */
        int check(Script script) {
            words = 0;
            boolean inWord = false;
            for (int i = 0; i < row.count; i++) {
                int c = row.at(i);
                boolean inside = c != LINE_END && c != BLANK;
                if (inside) {
                    takeCharacter(i, !inWord);
                }
                inWord = inside;
                if (c == LINE_END || i == row.count - 1) {
                    if (!takeLine(script)) {
                        return script.lines;
                    }
                    script.lines++;
                    words = 0;
                }
            }
            return script.lineOfMissingLabel();
        }

        /** Words beyond those of the longest form are only counted: no form has so many. */
        private void takeCharacter(int i, boolean begins) {
            if (begins) {
                words++;
            }
            int word = words - 1;
            if (word < 0 || word >= MOST_WORDS) {
                return;
            }
            if (begins) {
                from[word] = i;
            }
            to[word] = i + 1;
        }

        private boolean takeLine(Script script) {
            if (words == 0) {
                return true;
            }
            if (words == 1 && lengthOf(0) == 2 && letterAt(0, 1) == ':') {
                return script.addLabel(labelNamed(letterAt(0, 0)));
            }
            for (int i = 0; i < FORMS.length; i++) {
                if (isOfForm(FORMS[i])) {
                    script.statements.add(new Statement(
                            script.lines, FORMS[i], into, left, sign, right, label));
                    return true;
                }
            }
            return false;
        }

        private boolean isOfForm(Form form) {
            if (words != form.kinds.length() + 1 || !isWord(0, form.word)) {
                return false;
            }
            into = NONE;
            left = NO_OPERAND;
            sign = NONE;
            right = NO_OPERAND;
            label = NONE;
            for (int i = 0; i < form.kinds.length(); i++) {
                if (!takeWord(i + 1, form.kinds.charAt(i))) {
                    return false;
                }
            }
            return true;
        }

        private boolean takeWord(int word, char kind) {
            switch (kind) {
                case 'R':
                    into = registerNamed(onlyLetter(word));
                    return into != NONE;
                case 'X':
                    left = operandAt(word);
                    return left != NO_OPERAND;
                case 'Y':
                    right = operandAt(word);
                    return right != NO_OPERAND;
                case 'O':
                    sign = signAmong(OPERATORS, onlyLetter(word));
                    return sign != NONE;
                case 'C':
                    sign = signAmong(COMPARISONS, onlyLetter(word));
                    return sign != NONE;
                case 'L':
                    label = labelNamed(onlyLetter(word));
                    return label != NONE;
                case 'g':
                    return isWord(word, "go");
                default:
                    return false;
            }
        }

        private int lengthOf(int word) {
            boolean kept = word >= 0 && word < words && word < MOST_WORDS;
            return kept ? to[word] - from[word] : 0;
        }

        private int letterAt(int word, int i) {
            if (word < 0 || word >= words || word >= MOST_WORDS) {
                return NONE;
            }
            int at = from[word] + i;
            boolean inside = i >= 0 && at >= 0 && at < to[word] && at < row.bytes.length;
            return inside ? row.bytes[at] : NONE;
        }

        private int onlyLetter(int word) {
            return lengthOf(word) == 1 ? letterAt(word, 0) : NONE;
        }

        private boolean isWord(int word, String wanted) {
            if (lengthOf(word) != wanted.length()) {
                return false;
            }
            for (int i = 0; i < wanted.length(); i++) {
                if (letterAt(word, i) != wanted.charAt(i)) {
                    return false;
                }
            }
            return true;
        }

        private int operandAt(int word) {
            int named = registerNamed(onlyLetter(word));
            if (named != NONE) {
                return REGISTERS_FROM + named;
            }
            boolean negative = letterAt(word, 0) == '-';
            int first = negative ? 1 : 0;
            int length = lengthOf(word);
            if (length - first < 1 || length - first > MOST_DIGITS) {
                return NO_OPERAND;
            }
            int value = 0;
            for (int i = first; i < length; i++) {
                int c = letterAt(word, i);
                if (c < '0' || c > '9') {
                    return NO_OPERAND;
                }
                value = 10 * value + c - '0';
            }
            return negative ? -value : value;
        }

        private static int registerNamed(int c) {
            return c >= 'a' && c < 'a' + REGISTERS ? c - 'a' : NONE;
        }

        private static int labelNamed(int c) {
            return c >= 'A' && c <= 'Z' ? c - 'A' : NONE;
        }

        private static int signAmong(String signs, int c) {
            return c != NONE && signs.indexOf((char) c) >= 0 ? c : NONE;
        }
    }

    /** What a RUNNING PROGRAM has of its own. There is one for each depth, used again. */
    private static final class Frame {
        final int depth;
        final int[] registers = new int[REGISTERS];
        final int[] cells = new int[CELLS];
        private final int[] calls = new int[OPEN_CALLS];
        private int open;
        int next;
        int line;

        Frame(int depth) {
            this.depth = depth;
        }

        void begin(int argument) {
            Arrays.fill(registers, 0);
            Arrays.fill(cells, 0);
            registers[0] = argument;
            open = 0;
            next = 0;
        }

        int valueOf(int operand) {
            int k = operand - REGISTERS_FROM;
            return k >= 0 && k < REGISTERS ? registers[k] : operand;
        }

        void set(int k, int value) {
            if (k >= 0 && k < REGISTERS) {
                registers[k] = value;
            }
        }

        boolean call(int place) {
            if (open < 0 || open >= OPEN_CALLS) {
                return false;
            }
            calls[open] = next;
            open++;
            next = place;
            return true;
        }

        boolean comeBack() {
            if (open < 1 || open > OPEN_CALLS) {
                return false;
            }
            open--;
            next = calls[open];
            return true;
        }
    }

    /** All that a run is a function of, and the latest run. */
    private static final class Machine {
        final Script[] scripts = new Script[PROGRAMS];
        final boolean[] planted = new boolean[THINGS_TO_ASK];
        final Row out = new Row(LONGEST_SPEECH);
        final Row err = new Row(LONGEST_SPEECH);
        final Frame first = new Frame(0);
        private final Row[] files = new Row[FILES];
        private final Frame[] children = new Frame[DEEPEST];
        boolean hasRun;
        int steps;
        int deepest;
        int begun;
        private int bound;
        /** Tells a child's EXIT 107, with which all ends, from the EXITS of a child alone. */
        private boolean beyondBound;

        Machine() {
            for (int i = 0; i < FILES; i++) {
                files[i] = new Row(LONGEST_FILE);
            }
            for (int i = 0; i < DEEPEST; i++) {
                children[i] = new Frame(i + 1);
            }
        }

        Row fileAt(int k) {
            return k >= 0 && k < FILES ? files[k] : null;
        }

        Script scriptAt(int k) {
            return k >= 0 && k < PROGRAMS ? scripts[k] : null;
        }

        int start(Script script, int argument, int bound) {
            this.bound = bound;
            hasRun = true;
            steps = 0;
            deepest = 0;
            begun = 0;
            beyondBound = false;
            out.makeEmpty();
            err.makeEmpty();
            return follow(script, first, argument);
        }

        /** Each turn but the last is a STEP, so the BOUND ends the loop before its counter. */
        private int follow(Script script, Frame frame, int argument) {
            frame.begin(argument);
            begun++;
            deepest = Math.max(deepest, frame.depth);
            for (int turn = 0; turn <= LARGEST_BOUND; turn++) {
                Statement s = script.at(frame.next);
                if (s == null) {
                    frame.line = script.lines;
                    return EXIT_FINE;
                }
                frame.line = s.line;
                if (steps >= bound) {
                    break;
                }
                steps++;
                frame.next++;
                int exit = perform(s, script, frame);
                if (exit != GOES_ON) {
                    return exit;
                }
            }
            beyondBound = true;
            return EXIT_BOUND;
        }

        private int perform(Statement s, Script script, Frame frame) {
            int x = frame.valueOf(s.left);
            int y = frame.valueOf(s.right);
            switch (s.form) {
                case LET:
                    frame.set(s.into, x);
                    return GOES_ON;
                case CALCULATE:
                    return calculate(frame, s, x, y);
                case GET:
                    return getCell(frame, s.into, x);
                case PUT:
                    return putCell(frame, x, y);
                case SIZE:
                    return sizeFile(frame, s.into, x);
                case READ:
                    return readFile(frame, s.into, x, y);
                case WRITE:
                    return writeFile(x, y);
                case DROP:
                    return dropFile(x);
                case COPY:
                    return copyFile(x, y);
                case OUT:
                    return speak(out, x);
                case ERR:
                    return speak(err, x);
                case GO:
                    frame.next = script.placeOf(s.label);
                    return GOES_ON;
                case IF:
                    if (holds(x, s.sign, y)) {
                        frame.next = script.placeOf(s.label);
                    }
                    return GOES_ON;
                case CALL:
                    return frame.call(script.placeOf(s.label)) ? GOES_ON : EXIT_CALLS;
                case BACK:
                    return frame.comeBack() ? GOES_ON : EXIT_CALLS;
                case RUN:
                    return runChild(frame, s.into, x, y);
                case ASK:
                    return ask(frame, s.into, x);
                case EXIT:
                    return x & 63;
                default:
                    return GOES_ON;
            }
        }

        private static int calculate(Frame frame, Statement s, int x, int y) {
            boolean divides = s.sign == '/' || s.sign == '%';
            if (divides && y == 0) {
                return EXIT_BY_ZERO;
            }
            frame.set(s.into, divides ? divided(x, s.sign, y) : combined(x, s.sign, y));
            return GOES_ON;
        }

        private static int divided(int x, int sign, int y) {
            if (y == 0) {
                return 0;
            }
            return sign == '/' ? x / y : x % y;
        }

        private static int combined(int x, int sign, int y) {
            switch (sign) {
                case '+':
                    return x + y;
                case '-':
                    return x - y;
                case '*':
                    return x * y;
                case '&':
                    return x & y;
                case '|':
                    return x | y;
                case '^':
                    return x ^ y;
                default:
                    return holds(x, sign, y) ? 1 : 0;
            }
        }

        private static boolean holds(int x, int sign, int y) {
            switch (sign) {
                case '<':
                    return x < y;
                case '=':
                    return x == y;
                default:
                    return x > y;
            }
        }

        private static int getCell(Frame frame, int into, int cell) {
            if (cell < 0 || cell >= CELLS) {
                return EXIT_NOT_ONE;
            }
            frame.set(into, frame.cells[cell]);
            return GOES_ON;
        }

        private static int putCell(Frame frame, int cell, int value) {
            if (cell < 0 || cell >= CELLS) {
                return EXIT_NOT_ONE;
            }
            frame.cells[cell] = value;
            return GOES_ON;
        }

        private int sizeFile(Frame frame, int into, int file) {
            Row row = fileAt(file);
            if (row == null) {
                return EXIT_NOT_ONE;
            }
            frame.set(into, row.countIfThere());
            return GOES_ON;
        }

        private int readFile(Frame frame, int into, int file, int i) {
            Row row = fileAt(file);
            if (row == null) {
                return EXIT_NOT_ONE;
            }
            if (!row.there) {
                return EXIT_NOT_THERE;
            }
            int b = row.at(i);
            if (b == NONE) {
                return EXIT_NOT_ONE;
            }
            frame.set(into, b);
            return GOES_ON;
        }

        private int writeFile(int file, int b) {
            Row row = fileAt(file);
            return row == null ? EXIT_NOT_ONE : speak(row, b);
        }

        private int dropFile(int file) {
            Row row = fileAt(file);
            if (row == null) {
                return EXIT_NOT_ONE;
            }
            if (!row.there) {
                return EXIT_NOT_THERE;
            }
            row.remove();
            return GOES_ON;
        }

        private int copyFile(int file, int onto) {
            Row row = fileAt(file);
            Row other = fileAt(onto);
            if (row == null || other == null) {
                return EXIT_NOT_ONE;
            }
            if (!row.there) {
                return EXIT_NOT_THERE;
            }
            other.become(row);
            return GOES_ON;
        }

        private static int speak(Row row, int b) {
            if (!row.hasRoomFor(1)) {
                return EXIT_FULL;
            }
            row.add(b);
            return GOES_ON;
        }

        /** If all ends in the child, the STATEMENT isn't done: its register stays as it was. */
        private int runChild(Frame frame, int into, int program, int argument) {
            Script script = scriptAt(program);
            if (script == null) {
                return EXIT_NOT_ONE;
            }
            int below = frame.depth;
            if (below < 0 || below >= DEEPEST) {
                return EXIT_CALLS;
            }
            int exit = follow(script, children[below], argument);
            if (beyondBound) {
                return EXIT_BOUND;
            }
            frame.set(into, exit);
            return GOES_ON;
        }

        private int ask(Frame frame, int into, int what) {
            if (what < 0 || what >= THINGS_TO_ASK) {
                return EXIT_NOT_ONE;
            }
            if (!planted[what]) {
                return EXIT_NOT_PLANTED;
            }
            frame.set(into, answer(frame, what));
            return GOES_ON;
        }

        /** The asking STATEMENT is counted already, and isn't one of those before. */
        private int answer(Frame frame, int what) {
            switch (what) {
                case 0:
                    return steps - 1;
                case 1:
                    return begun;
                default:
                    return 1000 * frame.depth + frame.line;
            }
        }
    }
}
