/** The edges of an object's life and of promise 1, each sentence with a test of its own. */
final class ObjectEdgesTest {
    private static final String NEW_OBJECT = "Promise 1: A new object";

    public static void main(String[] args) {
        theLastCallOfManyRuns();
        theLastCallOfManyLoads();
        theLastCallOfManyTexts();
        filesAndArgumentAlone();
        noFiles();
        noPrograms();
        nothingPlanted();
        nothingRun();
        theConstant();
        Calls.finish();
    }

    private static void lastCall() {
        Calls.sentence("What it is", "An object is used for at most 512 calls after it has been made");
    }

    private static void theLastCallOfManyRuns() {
        lastCall();
        StepPrograms x = new StepPrograms();
        x.text(Calls.packed("L:\nlet b"));
        x.text(Calls.packed(" b + 1\ng"));
        x.text(Calls.packed("o L"));
        x.load(0);
        for (int call = 5; call <= 511; call++) {
            Calls.due("call " + call, x.run(0, 0, 2000), 107);
        }
        Calls.due("call 512", x.register(1), 1000);
    }

    private static void theLastCallOfManyLoads() {
        lastCall();
        StepPrograms x = new StepPrograms();
        for (int call = 1; call <= 509; call++) {
            Calls.due("call " + call, x.load(call & 3), -1);
        }
        Calls.due("call 510", x.text(Calls.packed("exit 9")), true);
        Calls.due("call 511", x.load(3), -1);
        Calls.due("call 512", x.run(3, 0, 1), 9);
    }

    /** Ten full texts of 80 statements each: the most that 512 calls can bring in. */
    private static void theLastCallOfManyTexts() {
        lastCall();
        StepPrograms x = new StepPrograms();
        int calls = 0;
        String text = "back\n".repeat(80);
        for (int round = 0; round < 10; round++) {
            for (int i = 0; i < 400; i += 8) {
                Calls.due("text", x.text(Calls.packed(text.substring(i, i + 8))), true);
            }
            Calls.due("load", x.load(round & 3), -1);
            calls += 51;
        }
        Calls.due("calls so far", calls, 510);
        Calls.due("call 511", x.run(1, 0, 2000), 105);
        Calls.due("call 512", x.about(0), 1);
    }

    private static void filesAndArgumentAlone() {
        Calls.sentence("What it is", "a run is a function of files and argument alone");
        String work = "read b 0 0\nget c 3\nlet b b + c\nrun d 1 b\nout d\nwrite 0 d\ncall A\nA:\nexit 8";
        String child = "let a a + b\nget c 3\nlet a a + c\nerr a\nexit a";
        Calls c = new Calls().withFile(0, 5).with(0, work).with(1, child);
        c.ends(2, 99, 8, 8);
        String first = c.shown();
        // runs before, of whatever kind and end, leave nothing but the FILES
        String other = "let b 9\nlet c 9\nput 3 9\nout 9\nerr 9\nif a = 0 go C\nlet a a - 1\nrun d 2 a\nC:\ncall D\nD:\n";
        for (String end : new String[] {"", "exit 3", "let a a / 0", "L:\ngo L"}) {
            c.with(2, other + end);
            c.x.run(2, 3, 2000);
            c.withFile(0, 5).ends(2, 99, 8, 8);
            Calls.due("the same again", c.shown(), first);
        }
    }

    private static void noFiles() {
        Calls.sentence(NEW_OBJECT, "No FILES");
        Calls c = new Calls();
        for (int file = -1; file <= 10; file++) {
            Calls.due("size " + file, c.x.size(file), -1);
            Calls.due("byteOf " + file, c.x.byteOf(file, 0), -1);
        }
        c.with(0, "size b a");
        for (int file = 0; file <= 9; file++) {
            c.ends(file, 9, 0, 1);
            c.registerIs(1, -1);
        }
    }

    private static void noPrograms() {
        Calls.sentence(NEW_OBJECT, "no PROGRAMS");
        Calls c = new Calls();
        for (int program = -1; program <= 4; program++) {
            Calls.due("run " + program, c.x.run(program, 0, 9), -1);
        }
        c.with(0, "run b a 0");
        for (int program = 1; program <= 3; program++) {
            c.ends(program, 9, 102, 0);
        }
    }

    private static void nothingPlanted() {
        Calls.sentence(NEW_OBJECT, "nothing PLANTED");
        Calls c = new Calls().with(0, "ask b a");
        for (int what = 0; what <= 2; what++) {
            c.ends(what, 9, 106, 0);
            c.registerIs(1, 0);
        }
    }

    private static void nothingRun() {
        Calls.sentence(NEW_OBJECT, "nothing run");
        Calls c = new Calls();
        nothingRunYet(c);
        // bringing in a program is no run of it, and a refused run is none
        c.with(0, "out 1");
        nothingRunYet(c);
        Calls.due("refused", c.x.run(0, 5, 0), -1);
        Calls.due("refused", c.x.run(1, 5, 9), -1);
        nothingRunYet(c);
        c.ends(5, 9, 0, 1);
        Calls.due("steps of a run", c.x.about(0), 1);
    }

    private static void nothingRunYet(Calls c) {
        for (int what = -1; what <= 6; what++) {
            Calls.due("about " + what, c.x.about(what), -1);
        }
        for (int which = -1; which <= 2; which++) {
            Calls.due("said " + which, c.x.said(which, 0), -1);
        }
        for (int k = -1; k <= 8; k++) {
            Calls.due("register " + k, c.x.register(k), 0);
        }
    }

    private static void theConstant() {
        Calls.sentence("Terms", "The constants: `NONE = -1`: None.");
        Calls.due("NONE", StepPrograms.NONE, -1);
    }
}
