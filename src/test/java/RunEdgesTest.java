/** The edges of promises 6 to 10, each sentence with a test of its own. */
final class RunEdgesTest {
    private static final String PLANT = "Promise 6: plant";
    private static final String RUN = "Promise 7: run";
    private static final String ABOUT = "Promise 8: about";
    private static final String SAID = "Promise 9: said";
    private static final String REGISTER = "Promise 10: register";
    private static final int MIN = Integer.MIN_VALUE;
    private static final int MAX = Integer.MAX_VALUE;
    /** Speaks as often as its argument tells, of each sort, and counts in the registers. */
    private static final String SPEAKER = "L:\nif b = a go Z\nout b\nerr a\nlet b b + 1\ngo L\nZ:\nlet h 5";

    public static void main(String[] args) {
        whatMayBeAsked();
        plantingWhatIsNone();
        runWithAnArgument();
        outAndErrAreEmptyAtFirst();
        itsExit();
        noneIfItIsNotThere();
        noneForTheBound();
        ofTheLatestRun();
        aboutSteps();
        aboutOutAndErr();
        aboutDepth();
        aboutTheLine();
        aboutTheLineBehindTheLast();
        aboutBegun();
        aboutAnotherWhat();
        aboutIfThereWasNone();
        aByteOfOutOrErr();
        noByteSaid();
        registersOfTheFirstProgram();
        registersAtTheEnd();
        noRegister();
        Calls.finish();
    }

    private static void asks(Calls c, boolean clock, boolean order, boolean address) {
        boolean[] planted = {clock, order, address};
        int[] answers = {0, 1, 0};
        for (int what = 0; what <= 2; what++) {
            c.with(0, "ask b " + what);
            c.ends(0, 9, planted[what] ? 0 : 106, planted[what] ? 1 : 0);
            c.registerIs(1, planted[what] ? answers[what] : 0);
        }
    }

    private static void plants(Calls c, int what, boolean on) {
        Calls.due("plant " + what, c.x.plant(what, on), true);
    }

    private static void whatMayBeAsked() {
        Calls.sentence(PLANT, "What may be asked (0 .. 2) is PLANTED, or isn't");
        Calls c = new Calls();
        plants(c, 0, true);
        asks(c, true, false, false);
        plants(c, 2, true);
        asks(c, true, false, true);
        plants(c, 0, true);
        asks(c, true, false, true);
        plants(c, 1, true);
        asks(c, true, true, true);
        plants(c, 0, false);
        asks(c, false, true, true);
        plants(c, 2, false);
        plants(c, 2, false);
        asks(c, false, true, false);
        // it may be asked in children, and stays so from run to run
        c.with(0, "run b 1 0\nexit b").with(1, "ask a 1\nexit a");
        c.ends(0, 9, 2, 1);
        c.ends(0, 9, 2, 1);
        plants(c, 1, false);
        c.ends(0, 9, 106 & 63, 1);
    }

    private static void plantingWhatIsNone() {
        Calls.sentence(PLANT, "false if it isn't one");
        Calls c = new Calls();
        for (int no : Calls.outside(0, 2)) {
            Calls.due("plant " + no, c.x.plant(no, true), false);
        }
        asks(c, false, false, false);
        plants(c, 0, true);
        plants(c, 2, true);
        for (int no : Calls.outside(0, 2)) {
            Calls.due("plant " + no, c.x.plant(no, false), false);
            Calls.due("plant " + no, c.x.plant(no, true), false);
        }
        asks(c, true, false, true);
    }

    private static void runWithAnArgument() {
        Calls.sentence(RUN, "A PROGRAM is RUN with an argument");
        Calls c = new Calls().with(0, "let b a").with(3, "let c a");
        for (int argument : new int[] {0, 1, -1, 1000000, -1000000, 1000007, MIN, MAX}) {
            Calls.due("run 0", c.x.run(0, argument, 1), 0);
            c.registerIs(0, argument);
            c.registerIs(1, argument);
            c.registerIs(2, 0);
            Calls.due("run 3", c.x.run(3, argument, 1), 0);
            c.registerIs(1, 0);
            c.registerIs(2, argument);
        }
    }

    private static void outAndErrAreEmptyAtFirst() {
        Calls.sentence(RUN, "OUT and ERR being empty at first");
        Calls c = new Calls().with(0, SPEAKER);
        for (int argument : new int[] {60, 1, 60, 0}) {
            c.ends(argument, 2000, 0, 8);
            Calls.due("out", c.x.about(1), argument);
            Calls.due("err", c.x.about(2), argument);
            Calls.due("the last", c.x.said(0, argument - 1), argument - 1);
            Calls.due("the last", c.x.said(1, argument - 1), argument == 0 ? -1 : argument);
            Calls.due("behind it", c.x.said(0, argument), -1);
            Calls.due("behind it", c.x.said(1, argument), -1);
        }
        // behind an end in full rows, or by the BOUND, too
        c.ends(61, 2000, 104, 2);
        c.ends(0, 2000, 0, 8);
        c.hasSaid(0);
        c.hasSaid(1);
        c.ends(60, 50, 107, 1);
        Calls.due("out", c.x.about(1), 10);
        c.ends(0, 2000, 0, 8);
        c.hasSaid(0);
        c.hasSaid(1);
    }

    private static void itsExit() {
        Calls.sentence(RUN, "its EXIT");
        String[] texts = {"", "exit 0", "exit 63", "exit 64", "drop 0", "drop 10", "let b 1 / 0", "L:\nout 1\ngo L", "back", "ask b 0", "L:\ngo L"};
        int[] exits = {0, 0, 63, 0, 101, 102, 103, 104, 105, 106, 107};
        for (int i = 0; i < texts.length; i++) {
            for (int program : new int[] {0, 3}) {
                Calls c = new Calls().with(program, texts[i]);
                Calls.due("exit of " + texts[i], c.x.run(program, 0, 2000), exits[i]);
            }
        }
    }

    /** A run that is refused leaves all as it is, the latest run's traces too. */
    private static void refused(Calls c, int program, int bound) {
        String before = c.shown();
        Calls.due("run " + program + " with bound " + bound, c.x.run(program, 9, bound), -1);
        Calls.due("all", c.shown(), before);
    }

    private static Calls afterARun() {
        Calls c = new Calls().withFile(1, 4).with(0, "write 1 a\nout 2\nerr 3\nlet h 4\nrun b 3 0\nexit b").with(3, "exit 6");
        c.ends(5, 9, 6, 5);
        return c;
    }

    private static void noneIfItIsNotThere() {
        Calls.sentence(RUN, "NONE if it isn't there");
        refused(afterARun(), 1, 9);
        refused(afterARun(), 2, 9);
        for (int no : Calls.outside(0, 3)) {
            refused(afterARun(), no, 9);
        }
        Calls c = afterARun();
        Calls.due("ill", c.load(1, "exit 1\nx"), 1);
        refused(c, 1, 9);
        Calls.due("run 0", c.x.run(0, 0, 9), 6);
        Calls.due("run 3", c.x.run(3, 0, 9), 6);
        Calls.due("there, with no LINE", c.load(1, ""), -1);
        Calls.due("run 1", c.x.run(1, 0, 9), 0);
    }

    private static void noneForTheBound() {
        Calls.sentence(RUN, "or BOUND isn't 1 .. 2000");
        for (int no : Calls.outside(1, 2000)) {
            refused(afterARun(), 0, no);
            refused(afterARun(), 1, no);
        }
        Calls c = afterARun();
        refused(c, 0, -1);
        Calls.due("bound 1", c.x.run(0, 0, 1), 107);
        Calls.due("steps", c.x.about(0), 1);
        Calls.due("bound 2000", c.x.run(0, 0, 2000), 6);
        c.with(0, "L:\ngo L");
        for (int bound : new int[] {1, 2, 1999, 2000}) {
            Calls.due("bound " + bound, c.x.run(0, 0, bound), 107);
            Calls.due("steps", c.x.about(0), bound);
        }
    }

    private static void ofTheLatestRun() {
        Calls.sentence(ABOUT, "Of the latest run");
        Calls c = afterARun();
        aboutIs(c, 7, 1, 1, 1, 5, 2);
        Calls.due("another run", c.x.run(3, 0, 9), 6);
        aboutIs(c, 1, 0, 0, 0, 0, 1);
        // calls that are no run leave it
        c.with(3, "\n\n\nexit 7");
        Calls.due("plant", c.x.plant(0, true), true);
        Calls.due("clear", c.x.clear(1, false), true);
        aboutIs(c, 1, 0, 0, 0, 0, 1);
        Calls.due("the new program", c.x.run(3, 0, 9), 7);
        aboutIs(c, 1, 0, 0, 0, 3, 1);
    }

    private static void aboutIs(Calls c, int... values) {
        for (int what = 0; what <= 5; what++) {
            Calls.due("about " + what, c.x.about(what), values[what]);
        }
    }

    private static void aboutSteps() {
        Calls.sentence(ABOUT, "0 STEPS");
        Calls c = new Calls().with(0, "").with(1, "A:\n\nlet b 1").with(2, "L:\ngo L").with(3, "run b 1 0\nrun b 0 0\nback");
        int[] steps = {0, 1, 2000, 4};
        for (int program = 0; program <= 3; program++) {
            c.x.run(program, 0, 2000);
            Calls.due("steps of " + program, c.x.about(0), steps[program]);
        }
        c.x.run(2, 0, 1);
        Calls.due("steps with bound 1", c.x.about(0), 1);
    }

    private static void aboutOutAndErr() {
        Calls.sentence(ABOUT, "1 how many bytes OUT has, 2 ERR");
        Calls c = new Calls().with(0, "L:\nif b = a go Z\nout 1\nlet b b + 1\ngo L\nZ:\nerr 2\n").with(1, "L:\nerr 1\ngo L");
        for (int count : new int[] {0, 1, 59, 60}) {
            c.ends(count, 2000, 0, 7);
            Calls.due("out", c.x.about(1), count);
            Calls.due("err", c.x.about(2), 1);
        }
        c.ends(61, 2000, 104, 2);
        Calls.due("out", c.x.about(1), 60);
        Calls.due("err", c.x.about(2), 0);
        Calls.due("run", c.x.run(1, 0, 2000), 104);
        Calls.due("out", c.x.about(1), 0);
        Calls.due("err", c.x.about(2), 60);
    }

    private static void aboutDepth() {
        Calls.sentence(ABOUT, "3 how DEEP it was at most");
        Calls c = new Calls().with(0, "if a = 0 go Z\nlet a a - 1\nrun b 0 a\nZ:");
        int[] deep = {0, 1, 2, 3, 3, 3};
        for (int i = 0; i < deep.length; i++) {
            c.ends(i, 99, 0, 4);
            Calls.due("deep", c.x.about(3), deep[i]);
        }
        c.ends(0, 99, 0, 4);
        Calls.due("not that of a run before", c.x.about(3), 0);
        // at most, not at the end; and a call is no depth
        c.with(0, "run b 1 0\nrun b 2 0\ncall A\nA:").with(1, "run b 2 0").with(2, "");
        c.ends(0, 99, 0, 4);
        Calls.due("deep", c.x.about(3), 2);
        c.with(0, "call A\nA:\ncall B\nB:");
        c.ends(0, 99, 0, 4);
        Calls.due("deep", c.x.about(3), 0);
        // one that can't be begun, or ends by the BOUND before its first STEP
        c.with(0, "run b 3 0");
        c.ends(0, 99, 102, 0);
        Calls.due("deep", c.x.about(3), 0);
        c.with(0, "run b 1 0");
        c.ends(0, 1, 107, 0);
        Calls.due("deep", c.x.about(3), 1);
    }

    private static void aboutTheLine() {
        Calls.sentence(ABOUT, "4 the LINE at which the PROGRAM (the first one) ended");
        new Calls().with(0, "exit 1").ends(0, 9, 1, 0);
        new Calls().with(0, "\n".repeat(393) + "exit 21").ends(0, 9, 21, 393);
        new Calls().with(0, "A:\n\nback\nexit 1").ends(0, 9, 105, 2);
        // that of the STATEMENT that the BOUND forbids
        new Calls().with(0, "let b 1\nA:\n\nlet b 2").ends(0, 1, 107, 3);
        // the first one, not the child, wherever that ends
        Calls c = new Calls().with(0, "\nrun b 1 0\n\nexit 1").with(1, "\n\n\n\n\n\nexit 2");
        c.ends(0, 9, 1, 3);
        c.ends(0, 1, 107, 1);
        c.ends(0, 2, 107, 3);
        c.with(0, "\nrun b 1 0\n");
        c.ends(0, 9, 0, 2);
        Calls.due("run 1", c.x.run(1, 0, 9), 2);
        Calls.due("its line", c.x.about(4), 6);
    }

    private static void aboutTheLineBehindTheLast() {
        Calls.sentence(ABOUT, "(how many LINES it has, if behind the last)");
        String[] texts = {"", "\n", "let b 1", "let b 1\n", "let b 1\n\n", "go Z\nexit 1\nZ:", "\n".repeat(400), " ".repeat(400)};
        int[] lines = {0, 1, 1, 1, 2, 3, 400, 1};
        for (int i = 0; i < texts.length; i++) {
            new Calls().with(0, texts[i]).ends(0, 1, 0, lines[i]);
        }
        new Calls().with(0, "let b 1\nexit 0").ends(0, 9, 0, 1);
    }

    private static void aboutBegun() {
        Calls.sentence(ABOUT, "5 how many PROGRAMS were begun");
        Calls c = new Calls().with(0, "L:\nif b = a go Z\nlet b b + 1\nrun c 1 0\ngo L\nZ:").with(1, "");
        for (int children : new int[] {0, 1, 2, 400}) {
            c.ends(children, 2000, 0, 6);
            Calls.due("begun", c.x.about(5), 1 + children);
        }
        c.with(0, "L:\nrun c 1 0\ngo L");
        c.ends(0, 2000, 107, 1);
        Calls.due("begun", c.x.about(5), 1001);
        // one that can't be begun isn't counted, nor one in the run before
        c.with(0, "run c 2 0");
        c.ends(0, 9, 102, 0);
        Calls.due("begun", c.x.about(5), 1);
    }

    private static void aboutAnotherWhat() {
        Calls.sentence(ABOUT, "NONE for another what");
        Calls c = afterARun();
        for (int no : Calls.outside(0, 5)) {
            Calls.due("about " + no, c.x.about(no), -1);
        }
        Calls.due("about 0", c.x.about(0), 7);
        Calls.due("about 5", c.x.about(5), 2);
    }

    private static void aboutIfThereWasNone() {
        Calls.sentence(ABOUT, "or if there was none");
        Calls c = new Calls().with(0, "");
        Calls.due("refused", c.x.run(0, 0, 2001), -1);
        Calls.due("refused", c.x.run(1, 0, 2000), -1);
        aboutIs(c, -1, -1, -1, -1, -1, -1);
        c.ends(0, 1, 0, 0);
        aboutIs(c, 0, 0, 0, 0, 0, 1);
    }

    private static void aByteOfOutOrErr() {
        Calls.sentence(SAID, "A byte of OUT (which 0) or ERR (1)");
        Calls c = new Calls().with(0, SPEAKER);
        c.ends(60, 2000, 0, 8);
        for (int i = 0; i < 60; i++) {
            Calls.due("out " + i, c.x.said(0, i), i);
            Calls.due("err " + i, c.x.said(1, i), 60);
        }
        Calls d = Calls.ran("out 255\nout 0\nerr -1", 0);
        Calls.due("255 isn't NONE", d.x.said(0, 0), 255);
        Calls.due("0 is a byte", d.x.said(0, 1), 0);
        Calls.due("-1 is 255", d.x.said(1, 0), 255);
    }

    private static void noByteSaid() {
        Calls.sentence(SAID, "NONE if there is none");
        Calls c = new Calls().with(0, SPEAKER);
        Calls.due("before a run", c.x.said(0, 0), -1);
        Calls.due("before a run", c.x.said(1, 0), -1);
        for (int count : new int[] {60, 59, 1, 0}) {
            c.ends(count, 2000, 0, 8);
            for (int no : Calls.outside(0, count - 1)) {
                Calls.due("out " + no, c.x.said(0, no), -1);
                Calls.due("err " + no, c.x.said(1, no), -1);
            }
            for (int no : Calls.outside(0, 1)) {
                Calls.due("said of " + no, c.x.said(no, 0), -1);
            }
        }
        c.with(0, "err 1");
        c.ends(0, 9, 0, 1);
        Calls.due("only ERR has one", c.x.said(0, 0), -1);
        Calls.due("only ERR has one", c.x.said(1, 0), 1);
    }

    private static void registersOfTheFirstProgram() {
        Calls.sentence(REGISTER, "A register 0 .. 7 of the first PROGRAM");
        Calls c = new Calls().with(0, "let b 1\nlet c 2\nlet d 3\nlet e 4\nlet f 5\nlet g 6\nlet h 7\nrun b 1 9").with(1, "let h 70\nlet b 80\nexit 8");
        c.ends(MIN, 99, 0, 8);
        int[] values = {MIN, 8, 2, 3, 4, 5, 6, 7};
        for (int k = 0; k <= 7; k++) {
            c.registerIs(k, values[k]);
        }
        Calls.due("the other as the first", c.x.run(1, 3, 99), 8);
        c.registerIs(0, 3);
        c.registerIs(1, 80);
        c.registerIs(7, 70);
    }

    private static void registersAtTheEnd() {
        Calls.sentence(REGISTER, "as it was at the end of the latest run");
        String[] ends = {"", "exit 1", "back", "L:\ngo L"};
        int[] exits = {0, 1, 105, 107};
        for (int i = 0; i < ends.length; i++) {
            Calls c = new Calls().with(0, "let b 1\nlet b 2\n" + ends[i]);
            Calls.due("exit", c.x.run(0, 4, 9), exits[i]);
            c.registerIs(0, 4);
            c.registerIs(1, 2);
            // neither calls that are no run nor refused ones change it
            c.with(0, "let c 3");
            Calls.due("refused", c.x.run(0, 5, 0), -1);
            Calls.due("refused", c.x.run(1, 5, 9), -1);
            c.registerIs(0, 4);
            c.registerIs(1, 2);
            c.ends(5, 9, 0, 1);
            c.registerIs(0, 5);
            c.registerIs(1, 0);
            c.registerIs(2, 3);
        }
    }

    private static void noRegister() {
        Calls.sentence(REGISTER, "0 if there is none");
        Calls c = new Calls().with(0, "let h 7\nlet g 6\nlet b 1");
        for (int k = -1; k <= 8; k++) {
            Calls.due("before a run", c.x.register(k), 0);
        }
        Calls.due("refused", c.x.run(0, 5, 0), -1);
        c.registerIs(0, 0);
        c.ends(5, 9, 0, 3);
        for (int no : Calls.outside(0, 7)) {
            c.registerIs(no, 0);
        }
        c.registerIs(0, 5);
        c.registerIs(7, 7);
    }
}
