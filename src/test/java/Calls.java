/** What the tests share: a fresh object, programs from texts, and the count of wrong answers. */
final class Calls {
    private static int checked = 0;
    private static int wrong = 0;

    final StepPrograms x = new StepPrograms();

    static void due(String what, long got, long want) {
        checked++;
        if (got != want) {
            wrong++;
            System.out.println(what + " answered " + got + ", due is " + want);
        }
    }

    static void due(String what, boolean got, boolean want) {
        due(what, got ? 1 : 0, want ? 1 : 0);
    }

    static void finish() {
        System.out.println(checked + " answers looked at, " + wrong + " wrong");
        if (wrong != 0 || checked == 0) {
            System.exit(1);
        }
    }

    /** Up to eight characters as text takes them. */
    static long packed(String characters) {
        long w = 0;
        for (int i = 0; i < characters.length(); i++) {
            w = w << 8 | characters.charAt(i);
        }
        return w;
    }

    boolean write(String source) {
        boolean all = true;
        for (int i = 0; i < source.length(); i += 8) {
            all &= x.text(packed(source.substring(i, Math.min(i + 8, source.length()))));
        }
        return all;
    }

    int load(int program, String source) {
        due("text of " + source, write(source), true);
        return x.load(program);
    }

    Calls with(int program, String source) {
        due("load of " + source, load(program, source), StepPrograms.NONE);
        return this;
    }

    Calls withFile(int file, int... bytes) {
        due("clear", x.clear(file, true), true);
        for (int b : bytes) {
            due("file", x.file(file, b, 1), true);
        }
        return this;
    }

    Calls planted() {
        for (int what = 0; what < 3; what++) {
            due("plant", x.plant(what, true), true);
        }
        return this;
    }

    void ends(int argument, int bound, int exit, int line) {
        due("run(0, " + argument + ", " + bound + ")", x.run(0, argument, bound), exit);
        due("line of the end", x.about(4), line);
    }

    void registerIs(int k, int value) {
        due("register " + k, x.register(k), value);
    }

    void fileIs(int file, int... bytes) {
        due("size of file " + file, x.size(file), bytes.length);
        for (int i = 0; i < bytes.length; i++) {
            due("byte " + i + " of file " + file, x.byteOf(file, i), bytes[i]);
        }
        due("byte behind file " + file, x.byteOf(file, bytes.length), StepPrograms.NONE);
    }

    void hasSaid(int which, int... bytes) {
        due("length of said " + which, x.about(1 + which), bytes.length);
        for (int i = 0; i < bytes.length; i++) {
            due("said " + which + " " + i, x.said(which, i), bytes[i]);
        }
        due("said behind the last", x.said(which, bytes.length), StepPrograms.NONE);
    }

    /** The value that register a has behind a program of one let, or of more lines. */
    static int valueOf(String source, int argument) {
        Calls c = new Calls().with(0, source);
        due("exit of " + source, c.x.run(0, argument, 2000), 0);
        return c.x.register(0);
    }
}
