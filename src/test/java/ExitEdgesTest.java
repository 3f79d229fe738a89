/** The edges of RUNNING, of the BOUND and of the EXITS 101 .. 107, on which promise 7 rests. */
final class ExitEdgesTest {
    private static final String TERMS = "Promise 7, Terms";
    private static final String NOT_ONE =
        "102 a FILE, cell, PROGRAM (of run; also one that isn't there), byte or what is asked isn't one";
    private static final int MIN = Integer.MIN_VALUE;
    private static final int MAX = Integer.MAX_VALUE;

    public static void main(String[] args) {
        registersAndCellsAtFirst();
        eachStatementIsAStep();
        labelsAndNothingAreNone();
        asManyStepsAsTheBound();
        childrensStepsCount();
        allEnds();
        aChildAlone();
        endsAtOnce();
        fileIsNotThere();
        notAFile();
        notACell();
        notAProgram();
        notAByte();
        notAsked();
        howReadLooks();
        howCopyLooks();
        byZero();
        aFullFile();
        fullOutAndErr();
        moreThanEightCalls();
        backWithoutAny();
        threeDeep();
        notThereGoesAhead();
        notPlanted();
        nothingIsChanged();
        whatWasDoneBeforeStays();
        Calls.finish();
    }

    /** Program 0 ends at its LINE 2, the second STEP, and R, which was 77, stays so. */
    private static void fails(Calls c, String statement, int argument, int exit) {
        c.with(0, "let b 77\n\n" + statement + "\nlet b 78\nexit 1");
        c.ends(argument, 99, exit, 2);
        Calls.due("steps of " + statement, c.x.about(0), 2);
        c.registerIs(1, 77);
    }

    private static void passes(Calls c, String statement, int argument) {
        c.with(0, "let b 77\n\n" + statement + "\nexit 1");
        c.ends(argument, 99, 1, 3);
    }

    private static void registersAndCellsAtFirst() {
        Calls.sentence(TERMS, "RUNNING: eight registers and 32 cells (0 .. 31), all 0 at first, but register a.");
        String sum = "L:\nget d c\nlet e e + d\nlet c c + 1\nif c < 32 go L\nput 0 5\nput 31 6\nlet b 1\nlet g 2\nlet h 3";
        Calls c = new Calls().with(0, sum).with(1, "");
        for (int argument : new int[] {0, 1, MIN, MAX}) {
            c.ends(argument, 999, 0, 10);
            c.registerIs(0, argument);
            Calls.due("sum of all cells", c.x.register(4), 0);
            c.registerIs(7, 3);
            Calls.due("the empty one", c.x.run(1, argument, 9), 0);
            c.registerIs(0, argument);
            for (int k = 1; k < 8; k++) {
                c.registerIs(k, 0);
            }
        }
        // a child, and one more behind it at the same depth
        Calls d = new Calls().with(0, "let b 9\nput 4 9\nrun c 1 2\nrun d 1 3\nget e 4")
            .with(1, "get c 4\nlet a a + b\nlet a a + c\nlet b 30\nput 4 30\nexit a");
        d.ends(0, 99, 0, 5);
        d.registerIs(1, 9);
        d.registerIs(2, 2);
        d.registerIs(3, 3);
        d.registerIs(4, 9);
    }

    private static void eachStatementIsAStep() {
        Calls.sentence(TERMS, "Each STATEMENT is one STEP");
        String all = "let b 1\nlet b b + 1\nget c 0\nput 0 1\nsize c 0\nread c 0 0\nwrite 1 1\ncopy 0 2\ndrop 2\nout 1\nerr 1\n"
            + "go A\nA:\nif 1 = 2 go A\ncall B\nexit 3\nB:\nrun c 1 0\nask c 0\nback";
        Calls c = new Calls().withFile(0, 5).planted().with(0, all).with(1, "");
        c.ends(0, 99, 3, 15);
        Calls.due("steps", c.x.about(0), 18);
        c.ends(0, 18, 3, 15);
        Calls.due("steps", c.x.about(0), 18);
        c.ends(0, 17, 107, 15);
        Calls.due("steps", c.x.about(0), 17);
        // also the one with which it ends
        String[] last = {"exit 1", "drop 3", "get b 32", "let b 1 / 0", "back", "ask b 3"};
        int[] exits = {1, 101, 102, 103, 105, 102};
        for (int i = 0; i < last.length; i++) {
            Calls d = new Calls().with(0, last[i]);
            d.ends(0, 1, exits[i], 0);
            Calls.due("steps", d.x.about(0), 1);
        }
    }

    private static void labelsAndNothingAreNone() {
        Calls.sentence(TERMS, "(a LABEL, or nothing, isn't)");
        String[] texts = {"", "\n\n", "A:\nB:\n \nC:", "\nA:\n\nlet b 1\n\nB:\n"};
        int[] steps = {0, 0, 0, 1};
        int[] lines = {0, 2, 4, 6};
        for (int i = 0; i < texts.length; i++) {
            Calls c = new Calls().with(0, texts[i]);
            c.ends(0, 1, 0, lines[i]);
            Calls.due("steps", c.x.about(0), steps[i]);
        }
        // a LABEL behind the last STEP of the BOUND is passed, the STATEMENT behind it isn't
        Calls c = new Calls().with(0, "let b 1\nA:\n\nlet b 2\nB:");
        c.ends(0, 1, 107, 3);
        c.ends(0, 2, 0, 5);
    }

    private static void asManyStepsAsTheBound() {
        Calls.sentence(TERMS, "With as many STEPS as the BOUND (children's count, too), the next one isn't done");
        Calls c = new Calls().with(0, "let b 1\nlet b 2\nlet b 3\nlet b 4");
        for (int bound = 1; bound <= 5; bound++) {
            boolean enough = bound >= 4;
            c.ends(0, bound, enough ? 0 : 107, Math.min(bound, 4));
            c.registerIs(1, Math.min(bound, 4));
            Calls.due("steps", c.x.about(0), Math.min(bound, 4));
        }
        // whatever the next one would be
        for (String next : new String[] {"exit 1", "drop 3", "get b 32", "let b 1 / 0", "back", "ask b 0", "run b 3 0"}) {
            Calls d = new Calls().with(0, "out 1\n" + next);
            d.ends(0, 1, 107, 1);
            Calls.due("steps", d.x.about(0), 1);
        }
        // the largest BOUND: 2 * 999 + 1 STEPS of the loop, and those behind it
        String loop = "L:\nlet a a + 1\nif a < 999 go L\n";
        Calls e = new Calls().with(0, loop + "let b 1\nlet b 2");
        e.ends(0, 2000, 0, 5);
        Calls.due("steps", e.x.about(0), 2000);
        e.ends(0, 1999, 107, 4);
        e.registerIs(1, 1);
        e.with(0, loop + "let b 1\nlet b 2\nlet b 3");
        e.ends(0, 2000, 107, 5);
        Calls.due("steps", e.x.about(0), 2000);
        e.registerIs(1, 2);
    }

    private static void childrensStepsCount() {
        Calls.sentence(TERMS, "(children's count, too)");
        Calls c = new Calls().with(0, "run b 1 0\nlet c 1").with(1, "out 1\nout 2\nexit 9");
        int[] outs = {0, 1, 2, 2, 2};
        int[] lines = {0, 0, 0, 1, 2};
        for (int bound = 1; bound <= 5; bound++) {
            c.ends(0, bound, bound < 5 ? 107 : 0, lines[bound - 1]);
            Calls.due("steps", c.x.about(0), bound);
            Calls.due("out", c.x.about(1), outs[bound - 1]);
            c.registerIs(1, bound < 4 ? 0 : 9);
            c.registerIs(2, bound < 5 ? 0 : 1);
        }
    }

    private static void allEnds() {
        Calls.sentence(TERMS, "all ends, with EXIT 107, children too.");
        // three children deep, each with something behind its run
        Calls c = new Calls().with(0, "let b 5\nlet a a + 1\nif a > 3 go L\nrun b 0 a\nerr 1\nexit 1\nL:\nout a\ngo L");
        c.ends(0, 30, 107, 3);
        Calls.due("steps", c.x.about(0), 30);
        Calls.due("deep", c.x.about(3), 3);
        Calls.due("begun", c.x.about(5), 4);
        Calls.due("nothing behind a run", c.x.about(2), 0);
        c.registerIs(0, 1);
        c.registerIs(1, 5);
        // also if the child is begun with the last STEP, and if nothing would come behind it
        Calls d = new Calls().with(0, "run b 1 0").with(1, "out 1").with(2, "");
        d.ends(0, 1, 107, 0);
        Calls.due("begun", d.x.about(5), 2);
        Calls.due("out", d.x.about(1), 0);
        d.ends(0, 2, 0, 1);
        // a child that has no STEP ends by itself
        d.with(0, "run b 2 0");
        d.ends(0, 1, 0, 1);
        // the run behind such an end begins anew
        d.with(0, "exit 4");
        d.ends(0, 1, 4, 0);
    }

    private static void aChildAlone() {
        Calls.sentence(TERMS, "A PROGRAM (a child alone) ends at once with such an EXIT");
        String[] statements = {"drop 1", "drop 10", "let b 1 / b", "write 2 1", "back", "ask b 0"};
        for (int i = 0; i < statements.length; i++) {
            Calls c = new Calls().with(0, "run b 1 0\nlet c 4\nexit 7").with(1, "run b 2 0\nout b\nlet b 0\n" + statements[i] + "\nout 9")
                .with(2, statements[i] + "\nout 9");
            c.withFullFile(2).ends(0, 99, 7, 2);
            c.registerIs(1, 101 + i);
            c.registerIs(2, 4);
            c.hasSaid(0, 101 + i);
            Calls.due("steps", c.x.about(0), 8);
        }
    }

    private static void endsAtOnce() {
        Calls.sentence(TERMS, "ends at once");
        // in the midst of open calls, too
        Calls c = new Calls().with(0, "call A\nlet b 2\nA:\ncall B\nlet b 3\nB:\nlet c 1 / b\nlet b 4");
        c.ends(0, 99, 103, 6);
        c.registerIs(1, 0);
        Calls.due("steps", c.x.about(0), 3);
        c.ends(0, 99, 103, 6);
    }

    private static void fileIsNotThere() {
        Calls.sentence(TERMS, "101 FILE isn't there (read, drop, copy)");
        for (int file : new int[] {0, 9}) {
            Calls c = new Calls();
            fails(c, "read b a 0", file, 101);
            fails(c, "drop a", file, 101);
            fails(c, "copy a 5", file, 101);
            fails(c, "copy a a", file, 101);
            Calls.due("none there", c.shownFiles(), new Calls().shownFiles());
            // an empty one is there
            Calls.due("clear", c.x.clear(file, true), true);
            fails(c, "read b a 0", file, 102);
            passes(c, "copy a 5", file);
            c.fileIs(5);
            passes(c, "drop a", file);
            // size and write don't ask for it
            passes(c, "size b a", file);
            c.registerIs(1, -1);
            passes(c, "write a 6", file);
            c.fileIs(file, 6);
        }
    }

    private static void notAFile() {
        Calls.sentence(TERMS + " (a FILE)", NOT_ONE);
        for (int no : Calls.outside(0, 9)) {
            Calls c = new Calls().withFile(0, 1).withFile(9, 2);
            String before = c.shownFiles();
            fails(c, "size b a", no, 102);
            fails(c, "read b a 0", no, 102);
            fails(c, "write a 0", no, 102);
            fails(c, "drop a", no, 102);
            fails(c, "copy a 0", no, 102);
            fails(c, "copy 0 a", no, 102);
            Calls.due("files", c.shownFiles(), before);
        }
        for (int file : new int[] {0, 9}) {
            Calls c = new Calls().withFile(file, 1);
            passes(c, "size b a", file);
            passes(c, "read b a 0", file);
            passes(c, "write a 0", file);
            passes(c, "copy a 5", file);
            passes(c, "copy 5 a", file);
            passes(c, "drop a", file);
        }
    }

    private static void notACell() {
        Calls.sentence(TERMS + " (cell)", NOT_ONE);
        for (int no : Calls.outside(0, 31)) {
            fails(new Calls(), "get b a", no, 102);
            fails(new Calls(), "put a 1", no, 102);
        }
        for (int cell : new int[] {0, 31}) {
            passes(new Calls(), "get b a", cell);
            passes(new Calls(), "put a 1", cell);
        }
    }

    private static void notAProgram() {
        Calls.sentence(TERMS + " (PROGRAM)", NOT_ONE);
        for (int no : Calls.outside(0, 3)) {
            fails(new Calls(), "run b a 1", no, 102);
        }
        for (int program : new int[] {1, 2, 3}) {
            Calls c = new Calls();
            fails(c, "run b a 1", program, 102);
            Calls.due("begun", c.x.about(5), 1);
            Calls.due("deep", c.x.about(3), 0);
            Calls.due("ill", c.load(program, "x"), 0);
            fails(c, "run b a 1", program, 102);
            c.with(program, "");
            passes(c, "run b a 1", program);
            c.registerIs(1, 0);
            Calls.due("begun", c.x.about(5), 2);
            Calls.due("deep", c.x.about(3), 1);
        }
    }

    private static void notAByte() {
        Calls.sentence(TERMS + " (byte)", NOT_ONE);
        Calls c = new Calls().withFile(1, 5).withFile(2);
        fails(c, "read b 2 0", 0, 102);
        fails(c, "read b 2 -1", 0, 102);
        for (int no : Calls.outside(0, 0)) {
            fails(c, "read b 1 a", no, 102);
        }
        passes(c, "read b 1 0", 0);
        c.registerIs(1, 5);
        // a byte that was there before isn't any more
        passes(c, "copy 2 1", 0);
        fails(c, "read b 1 0", 0, 102);
        c.withFullFile(3);
        passes(c, "read b 3 39", 0);
        c.registerIs(1, 8);
        fails(c, "read b 3 40", 0, 102);
    }

    private static void notAsked() {
        Calls.sentence(TERMS + " (what is asked)", NOT_ONE);
        for (int no : Calls.outside(0, 2)) {
            fails(new Calls(), "ask b a", no, 102);
            fails(new Calls().planted(), "ask b a", no, 102);
        }
        for (int what = 0; what <= 2; what++) {
            passes(new Calls().planted(), "ask b a", what);
        }
    }

    private static void howReadLooks() {
        Calls.sentence(TERMS, "read: looked at as FILE, 101, byte");
        Calls c = new Calls().withFile(0, 1);
        fails(c, "read b 10 0", 0, 102);
        fails(c, "read b 10 1", 0, 102);
        fails(c, "read b -1 -1", 0, 102);
        fails(c, "read b 9 0", 0, 101);
        fails(c, "read b 9 1", 0, 101);
        fails(c, "read b 9 -1", 0, 101);
        fails(c, "read b 0 1", 0, 102);
        fails(c, "read b 0 -1", 0, 102);
        passes(c, "read b 0 0", 0);
    }

    private static void howCopyLooks() {
        Calls.sentence(TERMS, "copy: both FILES, 101");
        Calls c = new Calls().withFile(0, 1);
        fails(c, "copy 10 10", 0, 102);
        fails(c, "copy 10 0", 0, 102);
        fails(c, "copy 0 10", 0, 102);
        fails(c, "copy 9 10", 0, 102);
        fails(c, "copy 9 -1", 0, 102);
        fails(c, "copy -1 9", 0, 102);
        fails(c, "copy 9 0", 0, 101);
        c.fileIs(0, 1);
        fails(c, "copy 9 8", 0, 101);
        passes(c, "copy 0 9", 0);
        c.fileIs(9, 1);
    }

    private static void byZero() {
        Calls.sentence(TERMS, "103 / or % by 0");
        for (int x : new int[] {0, 1, -1, MIN, MAX}) {
            fails(new Calls(), "let b a / 0", x, 103);
            fails(new Calls(), "let b a % 0", x, 103);
            fails(new Calls(), "let b a / -0", x, 103);
            fails(new Calls(), "let b a % h", x, 103);
            passes(new Calls(), "let b a / 1", x);
            passes(new Calls(), "let b a % 1", x);
            passes(new Calls(), "let b a / -1", x);
            passes(new Calls(), "let b a % -1", x);
        }
        // the others take a 0
        for (String o : "+ - * & | ^ < =".split(" ")) {
            passes(new Calls(), "let b 0 " + o + " 0", 0);
        }
    }

    private static void aFullFile() {
        Calls.sentence(TERMS, "104 a FILE would have more than 40 bytes");
        Calls c = new Calls();
        for (int i = 0; i < 4; i++) {
            Calls.due("file", c.x.file(3, i, 8), true);
        }
        Calls.due("up to 39", c.x.file(3, 4, 7), true);
        passes(c, "write 3 50", 0);
        Calls.due("size", c.x.size(3), 40);
        String before = c.shownFiles();
        fails(c, "write 3 51", 0, 104);
        Calls.due("files", c.shownFiles(), before);
        Calls.due("the last", c.x.byteOf(3, 39), 50);
        // a copy of a full one is no more than 40
        passes(c, "copy 3 4", 0);
        fails(c, "write 4 52", 0, 104);
        Calls.due("size", c.x.size(4), 40);
        passes(c, "drop 4", 0);
        passes(c, "write 4 53", 0);
        c.fileIs(4, 53);
        Calls d = new Calls().with(0, "L:\nwrite 0 b\nlet b b + 1\ngo L");
        d.ends(0, 2000, 104, 1);
        d.registerIs(1, 40);
        Calls.due("size", d.x.size(0), 40);
    }

    private static void fullOutAndErr() {
        Calls.sentence(TERMS, "OUT or ERR more than 60");
        String[] names = {"out", "err"};
        for (int which = 0; which < 2; which++) {
            String loop = "L:\n" + names[which] + " a\nlet a a + 1\nif a < 59 go L\n";
            String one = names[which] + " 7\n";
            Calls c = new Calls().with(0, loop + one);
            c.ends(0, 999, 0, 5);
            Calls.due("60 of them", c.x.about(1 + which), 60);
            Calls.due("the last", c.x.said(which, 59), 7);
            c.with(0, loop + one + one);
            c.ends(0, 999, 104, 5);
            Calls.due("60 of them", c.x.about(1 + which), 60);
            Calls.due("the last", c.x.said(which, 59), 7);
            Calls.due("behind it", c.x.said(which, 60), -1);
            // the other one has a room of its own
            c.with(0, loop + one + names[1 - which] + " 8");
            c.ends(0, 999, 0, 6);
            c.hasSaid(1 - which, 8);
            // a child speaks into the same
            c.with(1, loop + "exit 5").with(0, "run b 1 0\n" + one + one);
            c.ends(0, 999, 104, 2);
            c.registerIs(1, 5);
            Calls.due("60 of them", c.x.about(1 + which), 60);
        }
    }

    private static void moreThanEightCalls() {
        Calls.sentence(TERMS, "105 more than eight calls that haven't come back");
        String loop = "A:\nlet b b + 1\nif b > a go Z\ncall A\nZ:\n";
        for (int calls = 0; calls <= 8; calls++) {
            Calls c = new Calls().with(0, loop + "exit 1");
            c.ends(calls, 99, 1, 5);
            c.registerIs(1, calls + 1);
        }
        Calls c = new Calls().with(0, loop + "exit 1");
        c.ends(9, 99, 105, 3);
        c.registerIs(1, 9);
        Calls.due("steps", c.x.about(0), 27);
        // all eight come back, and eight more may go
        c.with(0, "call A\ncall A\nexit 1\nA:\nlet b b + 1\nif b = 8 go Z\nif b = 16 go Z\ncall A\nZ:\nback");
        c.ends(0, 99, 1, 2);
        c.registerIs(1, 16);
        // one of eight comes back: one more may go, and not two
        String seven = "A:\nlet b b + 1\nif b < 8 go B\ngo C\nB:\ncall A\nC:\n";
        c.with(0, seven + "call D\ncall D\nexit 1\nD:\nback");
        c.ends(0, 99, 1, 9);
        c.with(0, seven + "call D\nexit 1\nD:\ncall E\nexit 2\nE:\nback");
        c.ends(0, 99, 105, 10);
        // a child has eight of its own
        c.with(1, loop + "exit 1").with(0, "call A\nA:\ncall B\nB:\ncall C\nC:\nrun b 1 8\nrun c 1 9");
        c.ends(0, 999, 0, 8);
        c.registerIs(1, 1);
        c.registerIs(2, 105);
    }

    private static void backWithoutAny() {
        Calls.sentence(TERMS, "back without any");
        fails(new Calls(), "back", 0, 105);
        Calls c = new Calls().with(0, "call A\nback\nA:\nback");
        c.ends(0, 99, 105, 1);
        Calls.due("steps", c.x.about(0), 3);
        c.with(0, "call A\nexit 1\nA:\nback");
        c.ends(0, 99, 1, 1);
        // calls that are open in the PROGRAM above, or were in the run before, are none
        c.with(0, "call A\nexit 1\nA:\nrun b 1 0\nback").with(1, "back");
        c.ends(0, 99, 1, 1);
        c.registerIs(1, 105);
        c.with(0, "if a = 1 go B\ncall A\nA:\nexit 4\nB:\nback");
        c.ends(0, 99, 4, 3);
        c.ends(1, 99, 105, 5);
        c.with(0, "run b 1 0\nrun c 1 1\nexit c").with(1, "if a = 1 go B\ncall A\nA:\nexit 4\nB:\nback");
        c.ends(0, 99, 105 & 63, 2);
        c.registerIs(1, 4);
        c.registerIs(2, 105);
    }

    private static void threeDeep() {
        Calls.sentence(TERMS, "or run three DEEP already");
        // each one runs the next until a is 0, and hands up what it got
        Calls c = new Calls().with(0, "if a = 0 go Z\nlet a a - 1\nlet b 9\nrun b 0 a\nout b\nZ:\nout 50");
        int[] begun = {1, 2, 3, 4, 4};
        for (int children = 0; children <= 4; children++) {
            c.ends(children, 99, 0, 7);
            Calls.due("deep", c.x.about(3), Math.min(children, 3));
            Calls.due("begun", c.x.about(5), begun[children]);
        }
        c.hasSaid(0, 105, 50, 0, 50, 0, 50);
        c.ends(3, 99, 0, 7);
        c.hasSaid(0, 50, 0, 50, 0, 50, 0, 50);
        // the one that is refused keeps its R
        Calls d = new Calls().with(0, "run b 1 0").with(1, "run b 2 0").with(2, "run b 3 7").with(3, "let b 8\nout b\nrun b 3 b\nout b");
        d.ends(0, 99, 0, 1);
        d.hasSaid(0, 8);
        Calls.due("steps", d.x.about(0), 6);
    }

    private static void notThereGoesAhead() {
        Calls.sentence(TERMS, "(102 goes ahead)");
        for (int no : new int[] {-1, 3, 4}) {
            Calls c = new Calls().with(0, "run b 1 0\nexit 1").with(1, "run b 2 0\nexit 1")
                .with(2, "if a = 1 go A\nrun b 2 1\nout b\nexit 1\nA:\nrun b " + no + " 0");
            c.ends(0, 99, 1, 1);
            c.hasSaid(0, 102);
            Calls.due("deep", c.x.about(3), 3);
            if (no == 3) {
                c.with(3, "");
                c.ends(0, 99, 1, 1);
                c.hasSaid(0, 105);
                Calls.due("begun", c.x.about(5), 4);
            }
        }
    }

    private static void notPlanted() {
        Calls.sentence(TERMS, "106 what is asked isn't PLANTED.");
        for (int what = 0; what <= 2; what++) {
            Calls c = new Calls();
            fails(c, "ask b a", what, 106);
            for (int other = 0; other <= 2; other++) {
                Calls.due("plant", c.x.plant(other, other != what), true);
            }
            fails(c, "ask b a", what, 106);
            Calls.due("plant", c.x.plant(what, true), true);
            passes(c, "ask b a", what);
            Calls.due("plant", c.x.plant(what, false), true);
            fails(c, "ask b a", what, 106);
        }
    }

    private static void nothingIsChanged() {
        Calls.sentence(TERMS, "Nothing is changed by such a STATEMENT");
        String[] statements = {"read b 9 0", "drop 9", "copy 9 1", "size b 10", "read b 1 1", "write 10 5", "drop -1", "copy 1 10",
            "copy 10 1", "get b 32", "put 32 5", "run b 3 5", "run b 4 5", "ask b 3", "let b a / 0", "let a a % 0", "write 2 5", "back", "ask b 1"};
        for (String statement : statements) {
            String prefix = "let b 6\nlet a b + a\nout a\nerr b\nput 3 4\n";
            Calls c = beforeFailing().with(0, prefix + "exit 1");
            Calls d = beforeFailing().with(0, prefix + statement);
            c.ends(1, 99, 1, 5);
            Calls.due("it fails: " + statement, d.x.run(0, 1, 99) > 100, true);
            Calls.due("files behind " + statement, d.shownFiles(), c.shownFiles());
            Calls.due("said behind " + statement, d.shownSpeech(), c.shownSpeech());
            Calls.due("registers behind " + statement, d.shownRegisters(), c.shownRegisters());
            Calls.due("begun behind " + statement, d.x.about(5), 1);
        }
    }

    private static Calls beforeFailing() {
        return new Calls().withFile(1, 7).withFullFile(2);
    }

    private static void whatWasDoneBeforeStays() {
        Calls.sentence(TERMS, "what was done before stays.");
        String work = "let b 6\nwrite 0 1\ncopy 0 1\nwrite 1 2\ndrop 0\nout 3\nerr 4\n";
        Calls c = new Calls().withFile(0, 9).with(0, work + "back");
        c.ends(5, 99, 105, 7);
        done(c);
        c.registerIs(0, 5);
        c.registerIs(1, 6);
        Calls d = new Calls().withFile(0, 9).with(0, "run b 1 0").with(1, work + "back");
        d.ends(5, 99, 0, 1);
        d.registerIs(1, 105);
        done(d);
        // and so it does if the BOUND ends all
        Calls e = new Calls().withFile(0, 9).with(0, "run b 1 0").with(1, work + "L:\ngo L");
        e.ends(5, 99, 107, 0);
        done(e);
    }

    private static void done(Calls c) {
        Calls.due("dropped", c.x.size(0), -1);
        c.fileIs(1, 9, 1, 2);
        c.hasSaid(0, 3);
        c.hasSaid(1, 4);
    }
}
