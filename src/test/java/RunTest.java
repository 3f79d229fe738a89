/** Promises 6 to 10: plant, run (with its EXITS and the BOUND), about, said, register. */
final class RunTest {
    private static final int[] EXTREMES = {Integer.MIN_VALUE, -1, 4, Integer.MAX_VALUE};

    public static void main(String[] args) {
        planting();
        refusedRuns();
        refusedRunsLeaveTheLatest();
        exitsForFiles();
        exitsForCellsAndDivisions();
        exitsForFullRows();
        exitsForCalls();
        exitsForRun();
        exitsForAsk();
        aChildAloneEnds();
        theBoundOfOne();
        theBoundWithChildren();
        howDeepAtMost();
        aboutAndSaidBeyondTheirRange();
        Calls.finish();
    }

    private static void planting() {
        Calls c = new Calls();
        for (int what : new int[] {-1, 3, Integer.MIN_VALUE, Integer.MAX_VALUE}) {
            Calls.due("plant " + what, c.x.plant(what, true), false);
            Calls.due("plant " + what, c.x.plant(what, false), false);
        }
        for (int what = 0; what < 3; what++) {
            c.with(0, "ask b " + what);
            c.ends(0, 9, 106, 0);
            Calls.due("plant", c.x.plant(what, true), true);
            c.ends(0, 9, 0, 1);
            c.registerIs(1, what == 1 ? 1 : 0);
            Calls.due("plant again", c.x.plant(what, true), true);
            c.ends(0, 9, 0, 1);
            for (int other = what + 1; other < 3; other++) {
                c.with(0, "ask b " + other);
                c.ends(0, 9, 106, 0);
            }
            c.with(0, "ask b " + what);
            Calls.due("plant off", c.x.plant(what, false), true);
            c.ends(0, 9, 106, 0);
            Calls.due("plant off again", c.x.plant(what, false), true);
            c.ends(0, 9, 106, 0);
        }
    }

    private static void refusedRuns() {
        Calls c = new Calls().with(3, "exit 1");
        for (int program : EXTREMES) {
            Calls.due("program " + program, c.x.run(program, 0, 10), -1);
        }
        Calls.due("not there", c.x.run(0, 0, 10), -1);
        for (int bound : new int[] {0, -1, 2001, Integer.MIN_VALUE, Integer.MAX_VALUE}) {
            Calls.due("bound " + bound, c.x.run(3, 0, bound), -1);
        }
        Calls.due("no run yet", c.x.about(0), -1);
        Calls.due("bound 1", c.x.run(3, 0, 1), 1);
        Calls.due("bound 2000", c.x.run(3, 0, 2000), 1);
    }

    private static void refusedRunsLeaveTheLatest() {
        Calls c = new Calls().with(0, "out 5\nerr 6\nlet b 7\nexit 8");
        c.ends(4, 10, 8, 3);
        Calls.due("run", c.x.run(1, 0, 10), -1);
        Calls.due("run", c.x.run(0, 0, 0), -1);
        Calls.due("load", c.load(0, "exit 9\n"), -1);
        Calls.due("plant", c.x.plant(0, true), true);
        c.hasSaid(0, 5);
        c.hasSaid(1, 6);
        c.registerIs(0, 4);
        c.registerIs(1, 7);
        Calls.due("steps", c.x.about(0), 4);
        Calls.due("deep", c.x.about(3), 0);
        Calls.due("line", c.x.about(4), 3);
        Calls.due("begun", c.x.about(5), 1);
    }

    /** One statement that ends the program: its EXIT, its LINE, its STEP, and nothing changed. */
    private static void fails(Calls c, String statement, int argument, int exit) {
        c.with(0, "out 3\n\nput 0 1\n" + statement + "\nlet a 0\nlet b 0");
        c.ends(argument, 99, exit, 3);
        Calls.due("steps", c.x.about(0), 3);
        c.registerIs(0, argument);
        c.registerIs(1, 0);
        c.hasSaid(0, 3);
    }

    private static void exitsForFiles() {
        for (int no : new int[] {-1, 10, 999999, Integer.MIN_VALUE, Integer.MAX_VALUE}) {
            Calls c = new Calls().withFile(0, 4, 5);
            fails(c, "size b a", no, 102);
            fails(c, "read b a 0", no, 102);
            fails(c, "read b a -1", no, 102);
            fails(c, "write a 1", no, 102);
            fails(c, "drop a", no, 102);
            fails(c, "copy a 0", no, 102);
            fails(c, "copy 0 a", no, 102);
            fails(c, "copy 1 a", no, 102);
            fails(c, "copy a 1", no, 102);
            fails(c, "copy a a", no, 102);
            c.fileIs(0, 4, 5);
        }
        Calls c = new Calls().withFile(0, 4, 5).withFile(2);
        fails(c, "read b 1 0", 8, 101);
        fails(c, "read b 1 -1", 8, 101);
        fails(c, "drop 1", 8, 101);
        fails(c, "copy 1 0", 8, 101);
        fails(c, "copy 1 1", 8, 101);
        fails(c, "read b 2 0", 8, 102);
        for (int no : new int[] {-1, 2, 40, Integer.MIN_VALUE, Integer.MAX_VALUE}) {
            fails(c, "read b 0 a", no, 102);
        }
        c.fileIs(0, 4, 5);
        c.fileIs(2);
        Calls.due("not made", c.x.size(1), -1);
    }

    private static void exitsForCellsAndDivisions() {
        for (int no : new int[] {-1, 32, Integer.MIN_VALUE, Integer.MAX_VALUE}) {
            fails(new Calls(), "get b a", no, 102);
            fails(new Calls(), "put a 1", no, 102);
        }
        fails(new Calls(), "let b 1 / 0", 5, 103);
        fails(new Calls(), "let b 1 % 0", 5, 103);
        fails(new Calls(), "let a a / b", Integer.MIN_VALUE, 103);
        fails(new Calls(), "let a a % b", 0, 103);
    }

    private static void exitsForFullRows() {
        String[] names = {"out", "err"};
        for (int which = 0; which < 2; which++) {
            Calls c = new Calls().with(0, "L:\n" + names[which] + " a\nlet b b + 1\nif b < 60 go L\n" + names[which] + " 1");
            c.ends(7, 999, 104, 4);
            Calls.due("steps", c.x.about(0), 181);
            Calls.due("length", c.x.about(1 + which), 60);
            Calls.due("the other", c.x.about(2 - which), 0);
            Calls.due("last", c.x.said(which, 59), 7);
            Calls.due("behind", c.x.said(which, 60), -1);
        }
        Calls c = new Calls().with(0, "L:\nwrite 4 b\nlet b b + 1\ngo L");
        c.ends(7, 999, 104, 1);
        Calls.due("size", c.x.size(4), 40);
        Calls.due("last", c.x.byteOf(4, 39), 39);
        c.registerIs(1, 40);
        c.with(0, "copy 4 5\nsize a 5\nwrite 5 1");
        c.ends(0, 9, 104, 2);
        c.registerIs(0, 40);
        // a child's words count with those of the others
        Calls d = new Calls().with(0, "run b 1 59\nout 1\nout 2").with(1, "L:\nout 9\nlet b b + 1\nif b < a go L");
        d.ends(0, 999, 104, 2);
        Calls.due("out", d.x.about(1), 60);
        Calls.due("the last", d.x.said(0, 59), 1);
    }

    private static void exitsForCalls() {
        Calls c = new Calls().with(0, "A:\nlet a a + 1\ncall A");
        c.ends(0, 999, 105, 2);
        c.registerIs(0, 9);
        Calls.due("steps", c.x.about(0), 18);
        fails(new Calls(), "back", 5, 105);
        Calls d = new Calls().with(0, "call A\nback\nA:\nlet a a + 1\nback");
        d.ends(0, 999, 105, 1);
        d.registerIs(0, 1);
        // calls that were open at the end of a run aren't any more in the next
        Calls e = new Calls().with(0, "if a = 1 go B\ncall A\nA:\nexit 4\nB:\nback");
        e.ends(0, 9, 4, 3);
        e.ends(1, 9, 105, 5);
    }

    private static void exitsForRun() {
        for (int no : EXTREMES) {
            fails(new Calls(), "run b a 1", no, 102);
        }
        fails(new Calls(), "run b 1 1", 7, 102);
        Calls c = new Calls().with(0, "out a\nlet a a + 1\nrun b 0 a\nout b\nexit b");
        c.ends(0, 99, 41, 4);
        c.hasSaid(0, 0, 1, 2, 3, 105, 41, 41);
        Calls.due("deep", c.x.about(3), 3);
        Calls.due("begun", c.x.about(5), 4);
        Calls.due("steps", c.x.about(0), 18);
        // 102 goes ahead of 105
        Calls d = new Calls().with(0, "let a a + 1\nif a = 4 go X\nrun b 0 a\nout b\nexit 1\nX:\nrun b 1 1");
        d.ends(0, 99, 1, 4);
        d.hasSaid(0, 102, 1, 1);
    }

    private static void exitsForAsk() {
        for (int no : new int[] {-1, 3, Integer.MIN_VALUE, Integer.MAX_VALUE}) {
            fails(new Calls(), "ask b a", no, 102);
            fails(new Calls().planted(), "ask b a", no, 102);
        }
        for (int what = 0; what < 3; what++) {
            fails(new Calls(), "ask b a", what, 106);
        }
    }

    private static void aChildAloneEnds() {
        String[] statements = {"drop 1", "drop 10", "let b 1 / b", "back", "ask b 0"};
        int[] exits = {101, 102, 103, 105, 106};
        for (int i = 0; i < exits.length; i++) {
            Calls c = new Calls().with(0, "run b 1 2\nlet c 4\nexit 7").with(1, "write 0 a\nout 8\n" + statements[i] + "\nout 9");
            c.ends(0, 99, 7, 2);
            c.registerIs(1, exits[i]);
            c.registerIs(2, 4);
            c.hasSaid(0, 8);
            c.fileIs(0, 2);
            Calls.due("steps", c.x.about(0), 6);
        }
    }

    private static void theBoundOfOne() {
        Calls c = new Calls().with(0, "let a 1\n\nA:\nlet a 2\nB:\n");
        c.ends(5, 1, 107, 3);
        c.registerIs(0, 1);
        Calls.due("steps", c.x.about(0), 1);
        // behind the last LINE there is no STEP that the BOUND could forbid
        c.ends(5, 2, 0, 5);
        Calls.due("steps", c.x.about(0), 2);
        Calls d = new Calls().with(0, "A:\ngo A");
        d.ends(0, 2000, 107, 1);
        Calls.due("steps", d.x.about(0), 2000);
        d.ends(0, 1, 107, 1);
        d.with(0, "let b 1\nlet a 1 / 0");
        d.ends(0, 1, 107, 1);
        d.ends(0, 2, 103, 1);
        d.with(0, "exit 1\nexit 2");
        d.ends(0, 1, 1, 0);
        d.with(0, "");
        d.ends(0, 1, 0, 0);
        Calls.due("steps", d.x.about(0), 0);
        Calls e = new Calls().with(0, "L:\nlet a a + 1\nif a < 999 go L\nlet b 5\nlet b 6\nlet b 7");
        e.ends(0, 2000, 107, 5);
        e.registerIs(1, 6);
    }

    private static void theBoundWithChildren() {
        Calls c = new Calls()
            .with(0, "let b 3\nrun b 1 0\nlet c 1")
            .with(1, "write 0 1\nrun b 2 0\nwrite 0 2")
            .with(2, "out 4\nout 5");
        int[] exits = {107, 107, 107, 107, 107, 107, 107, 0};
        int[] lines = {1, 1, 1, 1, 1, 1, 2, 3};
        int[] deep = {0, 1, 1, 2, 2, 2, 2, 2};
        for (int bound = 1; bound <= 8; bound++) {
            Calls.due("clear", c.x.clear(0, false), true);
            c.ends(0, bound, exits[bound - 1], lines[bound - 1]);
            Calls.due("steps", c.x.about(0), bound);
            Calls.due("deep", c.x.about(3), deep[bound - 1]);
            Calls.due("begun", c.x.about(5), deep[bound - 1] + 1);
            // the run STATEMENT isn't done if all ends in the child
            c.registerIs(1, bound < 7 ? 3 : 0);
            c.registerIs(2, bound < 8 ? 0 : 1);
            Calls.due("out", c.x.about(1), Math.max(0, Math.min(bound - 4, 2)));
        }
        c.fileIs(0, 1, 2);
        // all ends, even if nothing would come behind the child
        Calls d = new Calls().with(0, "run b 1 0").with(1, "A:\ngo A");
        d.ends(0, 50, 107, 0);
        Calls.due("the run behind it begins anew", d.x.run(0, 0, 1), 107);
        d.with(1, "");
        d.ends(0, 1, 0, 1);
        Calls.due("deep", d.x.about(3), 1);
        // children one behind the other
        Calls e = new Calls().with(0, "L:\nrun b 1 a\nlet a a + 1\ngo L").with(1, "exit a");
        e.ends(0, 2000, 107, 1);
        Calls.due("begun", e.x.about(5), 501);
        e.registerIs(0, 500);
        e.registerIs(1, 499 & 63);
    }

    private static void howDeepAtMost() {
        Calls c = new Calls().with(0, "if a = 1 go Z\nrun b 1 0\nrun b 2 0\nZ:").with(1, "run b 2 0").with(2, "exit 1");
        c.ends(0, 99, 0, 4);
        Calls.due("deep", c.x.about(3), 2);
        Calls.due("begun", c.x.about(5), 4);
        c.ends(1, 99, 0, 4);
        Calls.due("deep", c.x.about(3), 0);
        Calls.due("begun", c.x.about(5), 1);
    }

    private static void aboutAndSaidBeyondTheirRange() {
        Calls c = new Calls().with(0, "out 200\nerr 201\nlet h -1");
        c.ends(3, 9, 0, 3);
        for (int no : new int[] {-1, 6, Integer.MIN_VALUE, Integer.MAX_VALUE}) {
            Calls.due("about " + no, c.x.about(no), -1);
            Calls.due("said " + no, c.x.said(no, 0), -1);
        }
        Calls.due("said 2", c.x.said(2, 0), -1);
        for (int no : new int[] {-1, 1, 60, Integer.MIN_VALUE, Integer.MAX_VALUE}) {
            Calls.due("said 0 " + no, c.x.said(0, no), -1);
            Calls.due("said 1 " + no, c.x.said(1, no), -1);
        }
        c.hasSaid(0, 200);
        c.hasSaid(1, 201);
        c.registerIs(0, 3);
        c.registerIs(7, -1);
        for (int no : new int[] {-1, 8, Integer.MIN_VALUE, Integer.MAX_VALUE}) {
            c.registerIs(no, 0);
        }
    }
}
