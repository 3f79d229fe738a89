/** What the tests share: a fresh object, programs from texts, and the count of wrong answers. */
final class Calls {
    private static int checked = 0;
    private static int wrong = 0;
    private static int sentences = 0;
    private static int checkedBefore = 0;
    private static String heading = "";

    final StepPrograms x = new StepPrograms();

    /** Names the document's words by which the answers from here on are due. */
    static void sentence(String promise, String words) {
        endSentence();
        sentences++;
        heading = promise + ", \"" + words + "\": ";
        checkedBefore = checked;
    }

    /** A sentence without an answer looked at would be a test in name alone. */
    private static void endSentence() {
        if (sentences > 0 && checked == checkedBefore) {
            wrong++;
            System.out.println(heading + "nothing was looked at");
        }
    }

    private static void tellWrong(String what, String got, String want) {
        wrong++;
        System.out.println(heading + what + " answered " + got + ", due is " + want);
    }

    static void due(String what, long got, long want) {
        checked++;
        if (got != want) {
            tellWrong(what, "" + got, "" + want);
        }
    }

    static void due(String what, boolean got, boolean want) {
        checked++;
        if (got != want) {
            tellWrong(what, "" + got, "" + want);
        }
    }

    static void due(String what, String got, String want) {
        checked++;
        if (!got.equals(want)) {
            tellWrong(what, got, want);
        }
    }

    static void finish() {
        endSentence();
        String named = sentences == 0 ? "" : sentences + " sentences, ";
        System.out.println(named + checked + " answers looked at, " + wrong + " wrong");
        if (wrong != 0 || checked == 0) {
            System.exit(1);
        }
    }

    /** What lies just outside of a range, and as far outside as an int can. */
    static int[] outside(int first, int last) {
        return new int[] {first - 1, last + 1, Integer.MIN_VALUE, Integer.MAX_VALUE};
    }

    /** Up to eight characters as text takes them. */
    static long packed(String characters) {
        long w = 0;
        for (int i = 0; i < characters.length(); i++) {
            w = w << 8 | characters.charAt(i);
        }
        return w;
    }

    boolean write(String source) {
        boolean all = true;
        for (int i = 0; i < source.length(); i += 8) {
            all &= x.text(packed(source.substring(i, Math.min(i + 8, source.length()))));
        }
        return all;
    }

    int load(int program, String source) {
        due("text of " + source, write(source), true);
        return x.load(program);
    }

    Calls with(int program, String source) {
        due("load of " + source, load(program, source), StepPrograms.NONE);
        return this;
    }

    Calls withFile(int file, int... bytes) {
        due("clear", x.clear(file, true), true);
        for (int b : bytes) {
            due("file", x.file(file, b, 1), true);
        }
        return this;
    }

    /** Forty bytes: 1 to 8, five times. */
    Calls withFullFile(int file) {
        due("clear", x.clear(file, true), true);
        for (int i = 0; i < 5; i++) {
            due("file", x.file(file, 0x0102030405060708L, 8), true);
        }
        return this;
    }

    Calls planted() {
        for (int what = 0; what < 3; what++) {
            due("plant", x.plant(what, true), true);
        }
        return this;
    }

    void ends(int argument, int bound, int exit, int line) {
        due("run(0, " + argument + ", " + bound + ")", x.run(0, argument, bound), exit);
        due("line of the end", x.about(4), line);
    }

    void registerIs(int k, int value) {
        due("register " + k, x.register(k), value);
    }

    void fileIs(int file, int... bytes) {
        due("size of file " + file, x.size(file), bytes.length);
        for (int i = 0; i < bytes.length; i++) {
            due("byte " + i + " of file " + file, x.byteOf(file, i), bytes[i]);
        }
        due("byte behind file " + file, x.byteOf(file, bytes.length), StepPrograms.NONE);
    }

    void hasSaid(int which, int... bytes) {
        due("length of said " + which, x.about(1 + which), bytes.length);
        for (int i = 0; i < bytes.length; i++) {
            due("said " + which + " " + i, x.said(which, i), bytes[i]);
        }
        due("said behind the last", x.said(which, bytes.length), StepPrograms.NONE);
    }

    /** All that the calls show: FILES, and of the latest run about, OUT, ERR and registers. */
    String shown() {
        return shownFiles() + shownAbout() + shownSpeech() + shownRegisters();
    }

    String shownFiles() {
        StringBuilder s = new StringBuilder();
        for (int file = 0; file < 10; file++) {
            s.append(" file ").append(file).append(" of ").append(x.size(file)).append(':');
            for (int i = 0; i < x.size(file); i++) {
                s.append(' ').append(x.byteOf(file, i));
            }
        }
        return s.toString();
    }

    private String shownAbout() {
        StringBuilder s = new StringBuilder(" about:");
        for (int what = 0; what < 6; what++) {
            s.append(' ').append(x.about(what));
        }
        return s.toString();
    }

    String shownSpeech() {
        StringBuilder s = new StringBuilder();
        for (int which = 0; which < 2; which++) {
            s.append(" said ").append(which).append(':');
            for (int i = 0; i < x.about(1 + which); i++) {
                s.append(' ').append(x.said(which, i));
            }
        }
        return s.toString();
    }

    String shownRegisters() {
        StringBuilder s = new StringBuilder(" registers:");
        for (int k = 0; k < 8; k++) {
            s.append(' ').append(x.register(k));
        }
        return s.toString();
    }

    /** A program that is run at once, to its own end. */
    static Calls ran(String source, int argument) {
        Calls c = new Calls().with(0, source);
        due("exit of " + source, c.x.run(0, argument, 2000), 0);
        return c;
    }

    /** The value that register a has behind a program of one let, or of more lines. */
    static int valueOf(String source, int argument) {
        return ran(source, argument).x.register(0);
    }
}
