/** The edges of what each STATEMENT does, on which promise 7, run, rests. */
final class StatementEdgesTest {
    private static final String TERMS = "Promise 7, Terms";
    private static final int MIN = Integer.MIN_VALUE;
    private static final int MAX = Integer.MAX_VALUE;
    /** Values, and what their lowest eight bits are. */
    private static final int[] VALUES = {0, 1, 127, 128, 254, 255, 256, 257, -1, -128, -255, -256, -257, MIN, MAX};

    public static void main(String[] args) {
        let();
        in32Bits();
        cutOffTowardsZero();
        oneOrZero();
        get();
        put();
        size();
        read();
        write();
        drop();
        copy();
        outAndErr();
        go();
        ifGoes();
        callGoesThere();
        back();
        runAsAChild();
        itsRegisterA();
        becomesItsExit();
        theClock();
        theOrder();
        theAddress();
        exit();
        behindTheLastLine();
        Calls.finish();
    }

    private static void let() {
        Calls.sentence(TERMS, "let R X: R becomes X.");
        Calls.due("the largest", Calls.valueOf("let a 999999", 0), 999999);
        Calls.due("the smallest", Calls.valueOf("let a -999999", 0), -999999);
        Calls.due("itself", Calls.valueOf("let a a", MIN), MIN);
        Calls.due("another", Calls.valueOf("let a h", 7), 0);
        Calls c = Calls.ran("let h a", MAX);
        c.registerIs(0, MAX);
        c.registerIs(7, MAX);
        c.registerIs(6, 0);
    }

    private static void value(int a, String term, int want) {
        Calls.due(term + " with a = " + a, Calls.valueOf("let a " + term, a), want);
    }

    private static void in32Bits() {
        Calls.sentence(TERMS, "let R X O Y: R becomes X O Y (in 32 bits");
        value(MAX, "a + 0", MAX);
        value(MAX, "a + 1", MIN);
        value(MIN, "a + -1", MAX);
        value(MIN, "a + a", 0);
        value(MIN, "a - 0", MIN);
        value(MIN, "a - 1", MAX);
        value(MAX, "a - -1", MIN);
        value(MIN, "0 - a", MIN);
        value(MAX, "0 - a", -MAX);
        value(65536, "a * a", 0);
        value(46340, "a * a", 2147395600);
        value(46341, "a * a", -2147479015);
        value(MIN, "a * -1", MIN);
        value(MAX, "a * 2", -2);
        value(MIN, "a / -1", MIN);
        value(MIN, "a % -1", 0);
        value(MIN, "a & -1", MIN);
        value(MIN, "a & 999999", 0);
        value(MIN, "a | 1", MIN + 1);
        value(MIN, "a ^ -1", MAX);
        value(-1, "a ^ a", 0);
        // R may be one of X and Y, and all three the same
        Calls c = Calls.ran("let b a * a\nlet b b + b\nlet a a - b", 3);
        c.registerIs(1, 18);
        c.registerIs(0, -15);
    }

    private static void cutOffTowardsZero() {
        Calls.sentence(TERMS, "/ and % cut off towards 0");
        int[][] cases = {{7, 2, 3, 1}, {-7, 2, -3, -1}, {7, -2, -3, 1}, {-7, -2, 3, -1}, {1, 2, 0, 1}, {-1, 2, 0, -1}, {1, -2, 0, 1},
            {-1, -2, 0, -1}, {6, 2, 3, 0}, {-6, 2, -3, 0}, {0, -5, 0, 0}, {MAX, 2, 1073741823, 1}, {MIN, 2, -1073741824, 0},
            {MIN, 3, -715827882, -2}, {MAX, -1, -MAX, 0}, {5, 5, 1, 0}, {-5, 5, -1, 0}, {MAX, 1, MAX, 0}, {MIN, 1, MIN, 0}};
        for (int[] row : cases) {
            value(row[0], "a / " + row[1], row[2]);
            value(row[0], "a % " + row[1], row[3]);
        }
        Calls.due("by itself", Calls.valueOf("let a a / a", MIN), 1);
        Calls.due("by a larger one", Calls.valueOf("let b a + 1\nlet a b / a", MIN), 0);
    }

    private static void oneOrZero() {
        Calls.sentence(TERMS, "< and = give 1 or 0");
        value(4, "a < 5", 1);
        value(5, "a < 5", 0);
        value(6, "a < 5", 0);
        value(4, "a = 5", 0);
        value(5, "a = 5", 1);
        value(6, "a = 5", 0);
        value(-1, "a < 0", 1);
        value(0, "a < -1", 0);
        // a difference of the two wouldn't fit into 32 bits
        value(MIN, "a < 1", 1);
        value(MAX, "a < -1", 0);
        value(MAX, "-1 < a", 1);
        Calls.due("the farthest", Calls.valueOf("let b a - 1\nlet a a < b", MIN), 1);
        Calls.due("the farthest", Calls.valueOf("let b a - 1\nlet a b < a", MIN), 0);
        Calls.due("the farthest", Calls.valueOf("let b a - 1\nlet a b = a", MIN), 0);
    }

    private static void get() {
        Calls.sentence(TERMS, "get R X: R becomes cell X.");
        Calls c = new Calls().with(0, "put 0 10\nput 31 41\nget b a");
        int[] cells = {0, 1, 30, 31};
        int[] values = {10, 0, 0, 41};
        for (int i = 0; i < cells.length; i++) {
            c.ends(cells[i], 9, 0, 3);
            c.registerIs(1, values[i]);
        }
        for (int no : Calls.outside(0, 31)) {
            c.ends(no, 9, 102, 2);
            c.registerIs(1, 0);
        }
    }

    private static void put() {
        Calls.sentence(TERMS, "put X Y: cell X becomes Y.");
        String sum = "\nL:\nget d c\nlet e e + d\nlet c c + 1\nif c < 32 go L";
        Calls c = new Calls().with(0, "let b a % 100\nlet a a / 100\nput b a\nget h b" + sum);
        for (int cell : new int[] {0, 1, 30, 31}) {
            c.ends(700 + cell, 999, 0, 9);
            c.registerIs(7, 7);
            Calls.due("no other cell", c.x.register(4), 7);
        }
        for (int no : new int[] {32, -1}) {
            c.ends(no, 999, 102, 2);
        }
        Calls.due("a whole int", Calls.valueOf("put 31 a\nlet a 0\nget a 31", MIN), MIN);
        Calls.due("the later one", Calls.valueOf("put 31 a\nput 31 5\nget a 31", MIN), 5);
    }

    private static void size() {
        Calls.sentence(TERMS, "size R X: R becomes how many bytes FILE X has, - 1 if it isn't there.");
        Calls c = new Calls().withFile(0).withFile(9, 1).withFullFile(5).with(0, "let b 7\nsize b a");
        int[] files = {0, 9, 5, 1, 8};
        int[] sizes = {0, 1, 40, -1, -1};
        for (int i = 0; i < files.length; i++) {
            c.ends(files[i], 9, 0, 2);
            c.registerIs(1, sizes[i]);
        }
        for (int no : Calls.outside(0, 9)) {
            c.ends(no, 9, 102, 1);
            c.registerIs(1, 7);
        }
        Calls.due("not made by it", c.x.size(1), -1);
    }

    private static void read() {
        Calls.sentence(TERMS, "read R X Y: R becomes byte Y of FILE X.");
        Calls c = new Calls().withFile(0, 255).withFile(9, 0, 128, 7).withFullFile(5);
        String before = c.shownFiles();
        readIs(c, 0, 0, 255);
        readIs(c, 9, 0, 0);
        readIs(c, 9, 1, 128);
        readIs(c, 9, 2, 7);
        readIs(c, 5, 0, 1);
        readIs(c, 5, 39, 8);
        c.with(0, "let b 3\nread b 9 a");
        for (int no : Calls.outside(0, 2)) {
            c.ends(no, 9, 102, 1);
            c.registerIs(1, 3);
        }
        c.with(0, "let b 3\nread b 5 40");
        c.ends(0, 9, 102, 1);
        Calls.due("files", c.shownFiles(), before);
    }

    private static void readIs(Calls c, int file, int i, int want) {
        c.with(0, "read b " + file + " " + i);
        c.ends(0, 9, 0, 1);
        c.registerIs(1, want);
    }

    private static void write() {
        Calls.sentence(TERMS, "write X Y: the lowest eight bits of Y come behind FILE X (it is there then).");
        for (int value : VALUES) {
            Calls c = Calls.ran("write 3 a", value);
            c.fileIs(3, value & 255);
        }
        Calls c = new Calls().withFile(0).withFile(9, 8).with(0, "write 0 1\nwrite 9 2\nwrite 4 3");
        c.ends(0, 9, 0, 3);
        c.fileIs(0, 1);
        c.fileIs(9, 8, 2);
        c.fileIs(4, 3);
        c.with(0, "write a 1");
        String before = c.shownFiles();
        for (int no : Calls.outside(0, 9)) {
            c.ends(no, 9, 102, 0);
        }
        Calls.due("files", c.shownFiles(), before);
    }

    private static void drop() {
        Calls.sentence(TERMS, "drop X: FILE X isn't there any more.");
        Calls c = new Calls().withFile(0, 1, 2).withFile(9).withFile(1, 3).withFile(8, 4).with(0, "drop a\nsize b a");
        for (int file : new int[] {0, 9}) {
            c.ends(file, 9, 0, 2);
            c.registerIs(1, -1);
            Calls.due("size", c.x.size(file), -1);
            Calls.due("byteOf", c.x.byteOf(file, 0), -1);
            c.ends(file, 9, 101, 0);
        }
        c.fileIs(1, 3);
        c.fileIs(8, 4);
        c.with(0, "write 0 9");
        c.ends(0, 9, 0, 1);
        c.fileIs(0, 9);
    }

    private static void copy() {
        Calls.sentence(TERMS, "copy X Y: FILE Y becomes what FILE X is.");
        Calls c = new Calls().withFile(0, 1, 2).withFile(9).withFullFile(5).with(0, "copy 5 0\ncopy 9 5\ncopy 0 9\ncopy 9 9\ncopy 5 1");
        c.ends(0, 9, 0, 5);
        c.fileIs(5);
        c.fileIs(1);
        for (int file : new int[] {0, 9}) {
            Calls.due("size", c.x.size(file), 40);
            Calls.due("first", c.x.byteOf(file, 0), 1);
            Calls.due("last", c.x.byteOf(file, 39), 8);
        }
        // behind it each is a FILE of its own
        Calls d = new Calls().withFile(0, 1, 2).with(0, "copy 0 1\nwrite 0 3\nwrite 1 4\ncopy 0 2\ndrop 0");
        d.ends(0, 9, 0, 5);
        Calls.due("dropped", d.x.size(0), -1);
        d.fileIs(1, 1, 2, 4);
        d.fileIs(2, 1, 2, 3);
    }

    private static void outAndErr() {
        Calls.sentence(TERMS, "out X, err X: the lowest eight bits of X come behind the OUT, ERR.");
        for (int value : VALUES) {
            Calls c = Calls.ran("out a", value);
            c.hasSaid(0, value & 255);
            c.hasSaid(1);
            Calls d = Calls.ran("err a", value);
            d.hasSaid(0);
            d.hasSaid(1, value & 255);
        }
        Calls c = Calls.ran("out 1\nerr 2\nout 3\nerr 4", 0);
        c.hasSaid(0, 1, 3);
        c.hasSaid(1, 2, 4);
    }

    private static void go() {
        Calls.sentence(TERMS, "go L.");
        new Calls().with(0, "go Z\nexit 1\nZ:").ends(0, 9, 0, 3);
        new Calls().with(0, "go Z\nexit 1\nZ:\nexit 2").ends(0, 9, 2, 3);
        new Calls().with(0, "go B\nA:\nexit 1\nB:\ngo A").ends(0, 9, 1, 2);
        // back to the first LINE
        Calls c = new Calls().with(0, "A:\nlet b b + 1\nif b = 3 go B\ngo A\nB:");
        c.ends(0, 99, 0, 5);
        c.registerIs(1, 3);
        new Calls().with(0, "A:\ngo A").ends(0, 2000, 107, 1);
        new Calls().with(0, "go A\nexit 1\nA:\nB:\n\ngo C\nC:").ends(0, 9, 0, 7);
    }

    private static void goes(int a, String term, boolean yes) {
        Calls c = new Calls().with(0, "if " + term + " go A\nexit 1\nA:\nexit 2");
        c.ends(a, 9, yes ? 2 : 1, yes ? 3 : 1);
    }

    private static void ifGoes() {
        Calls.sentence(TERMS, "if X C Y go L: goes there, if it is so.");
        int[] values = {MIN, -1, 0, 1, 4, 5, 6, MAX};
        for (int x : values) {
            goes(x, "a < 5", x < 5);
            goes(x, "a = 5", x == 5);
            goes(x, "a > 5", x > 5);
            goes(x, "0 < a", 0 < x);
            goes(x, "0 = a", 0 == x);
            goes(x, "0 > a", 0 > x);
            goes(x, "a < a", false);
            goes(x, "a = a", true);
            goes(x, "a > a", false);
        }
        // the farthest two: b is the largest
        for (String term : new String[] {"a < b", "b > a"}) {
            new Calls().with(0, "let b a - 1\nif " + term + " go A\nexit 1\nA:").ends(MIN, 9, 0, 4);
        }
        for (String term : new String[] {"a > b", "b < a", "a = b"}) {
            new Calls().with(0, "let b a - 1\nif " + term + " go A\nexit 1\nA:").ends(MIN, 9, 1, 2);
        }
        new Calls().with(0, "A:\nif 1 > 1 go A").ends(0, 9, 0, 2);
    }

    private static void callGoesThere() {
        Calls.sentence(TERMS, "call L: goes there");
        new Calls().with(0, "call A\nexit 1\nA:\nexit 2").ends(0, 9, 2, 3);
        new Calls().with(0, "call A\nexit 1\nA:").ends(0, 9, 0, 3);
        new Calls().with(0, "go B\nA:\nexit 2\nB:\ncall A").ends(0, 9, 2, 2);
    }

    private static void back() {
        Calls.sentence(TERMS, "back comes behind the latest call that hasn't come back.");
        // the call as the last STATEMENT: behind it there is nothing
        new Calls().with(0, "go B\nA:\nback\nB:\ncall A").ends(0, 9, 0, 5);
        new Calls().with(0, "go B\nA:\nback\nB:\ncall A\nC:\n").ends(0, 9, 0, 6);
        Calls c = new Calls().with(0, "call A\nout 1\ncall A\nout 2\nexit 3\nA:\nout 9\nback");
        c.ends(0, 99, 3, 4);
        c.hasSaid(0, 9, 1, 9, 2);
        Calls d = new Calls().with(0, "call A\nout 1\nexit 0\nA:\ncall B\nout 2\nback\nB:\ncall C\nout 3\nback\nC:\nout 4\nback");
        d.ends(0, 99, 0, 2);
        d.hasSaid(0, 4, 3, 2, 1);
    }

    private static void runAsAChild() {
        Calls.sentence(TERMS, "run R X Y: PROGRAM X is RUN as a child");
        Calls c = new Calls().with(0, "run b a 0\nexit 1").with(1, "exit 11").with(3, "exit 13");
        int[] programs = {1, 3};
        for (int program : programs) {
            c.ends(program, 9, 1, 1);
            c.registerIs(1, 10 + program);
            Calls.due("deep", c.x.about(3), 1);
        }
        // itself, too
        Calls d = new Calls().with(0, "if a = 1 go A\nrun b 0 1\nexit b\nA:\nexit 5");
        d.ends(0, 9, 5, 2);
        Calls.due("begun", d.x.about(5), 2);
        for (int no : new int[] {2, -1, 4, MIN, MAX}) {
            c.ends(no, 9, 102, 0);
            c.registerIs(1, 0);
        }
    }

    private static void itsRegisterA() {
        Calls.sentence(TERMS, "its register a being Y");
        for (int value : new int[] {0, 1, -1, MIN, MAX}) {
            Calls c = new Calls().with(0, "let b a\nlet a 5\nrun c 1 b").with(1, "write 0 a\nlet b a / 256\nwrite 0 b\nlet a 9");
            c.ends(value, 99, 0, 3);
            c.fileIs(0, value & 255, value / 256 & 255);
            c.registerIs(0, 5);
            c.registerIs(1, value);
        }
        Calls c = new Calls().with(0, "run b 1 -999999").with(1, "let a a + 999999\nexit a");
        c.ends(7, 99, 0, 1);
        c.registerIs(0, 7);
    }

    private static void becomesItsExit() {
        Calls.sentence(TERMS, "R becomes its EXIT");
        String[] children = {"", "exit 0", "exit 63", "exit 64", "exit -1", "drop 0", "drop 10", "let a a / b", "back", "ask a 0"};
        int[] exits = {0, 0, 63, 0, 63, 101, 102, 103, 105, 106};
        for (int i = 0; i < exits.length; i++) {
            Calls c = new Calls().with(0, "let b 7\nrun b 1 b").with(1, children[i]);
            c.ends(5, 99, 0, 2);
            c.registerIs(0, 5);
            c.registerIs(1, exits[i]);
            c.with(0, "run a 1 a\nexit a");
            c.ends(5, 99, exits[i] & 63, 1);
            c.registerIs(0, exits[i]);
        }
        Calls c = new Calls().with(0, "run h 1 0").with(1, "L:\nout 1\ngo L");
        c.ends(0, 999, 0, 1);
        c.registerIs(7, 104);
    }

    private static void theClock() {
        Calls.sentence(TERMS, "ask R X: R becomes what is PLANTED: 0 the CLOCK: how many STEPS there were before");
        Calls c = new Calls().planted().with(0, "\nA:\nask b 0\n\nask c 0\nrun d 1 0\nask e 0").with(1, "ask a 0\nout a\nexit a");
        c.ends(0, 99, 0, 7);
        c.registerIs(1, 0);
        c.registerIs(2, 1);
        c.hasSaid(0, 3);
        c.registerIs(3, 3);
        c.registerIs(4, 6);
        c.ends(0, 99, 0, 7);
        Calls.due("anew in each run", c.x.register(1), 0);
        Calls d = new Calls().planted().with(0, "L:\nask b 0\nask c 0\ngo L");
        d.ends(0, 2000, 107, 3);
        d.registerIs(1, 1998);
        d.registerIs(2, 1999);
    }

    private static void theOrder() {
        Calls.sentence(TERMS, "1 the ORDER: how many PROGRAMS were begun by run before (the first of all one, too)");
        Calls c = new Calls().planted().with(0, "ask b 1\nrun c 1 0\nask d 1\nrun e 1 0\nask f 1").with(1, "ask a 1\nexit a");
        c.ends(0, 99, 0, 5);
        int[] registers = {0, 1, 2, 2, 3, 3};
        for (int k = 1; k <= 5; k++) {
            c.registerIs(k, registers[k]);
        }
        Calls.due("as many as about tells", c.x.about(5), 3);
        c.ends(0, 99, 0, 5);
        c.registerIs(1, 1);
        // a child that can't be begun isn't counted
        Calls d = new Calls().planted().with(0, "run b 1 0\nask c 1").with(1, "run b 3 0");
        d.ends(0, 99, 0, 2);
        d.registerIs(1, 102);
        d.registerIs(2, 2);
    }

    private static void theAddress() {
        Calls.sentence(TERMS, "2 the ADDRESS: 1000 times how DEEP it is (0: no child), and its LINE.");
        Calls c = new Calls().planted().with(0, "ask b 2\n\nA:\nask c 2");
        c.ends(0, 9, 0, 4);
        c.registerIs(1, 0);
        c.registerIs(2, 3);
        c.with(0, "\n".repeat(393) + "ask b 2");
        c.ends(0, 9, 0, 394);
        c.registerIs(1, 393);
        String deeper = "let b a + 1\nif b < 4 go A\nB:\n\nask c 2\nwrite a c\nlet c c / 256\nwrite a c\nexit 0\nA:\nrun d 0 b\ngo B";
        Calls d = new Calls().planted().with(0, deeper);
        d.ends(0, 99, 0, 8);
        for (int depth = 0; depth <= 3; depth++) {
            int address = 1000 * depth + 4;
            d.fileIs(depth, address & 255, address >> 8);
        }
    }

    private static void exit() {
        Calls.sentence(TERMS, "exit X: the PROGRAM ends with EXIT X modulo 64 (its lowest six bits).");
        int[] values = {0, 1, 62, 63, 64, 65, 127, 128, -1, -63, -64, -65, 107, MIN, MAX};
        int[] exits = {0, 1, 62, 63, 0, 1, 63, 0, 63, 1, 0, 63, 43, 0, 63};
        for (int i = 0; i < values.length; i++) {
            Calls c = new Calls().with(0, "\nexit a\nlet b 1");
            c.ends(values[i], 9, exits[i], 1);
            c.registerIs(1, 0);
            Calls.due("steps", c.x.about(0), 1);
        }
        // in a call and in a child it ends the PROGRAM, and that alone
        Calls c = new Calls().with(0, "run b 1 0\nexit 4").with(1, "call A\nexit 2\nA:\nexit 3");
        c.ends(0, 9, 4, 1);
        c.registerIs(1, 3);
    }

    private static void behindTheLastLine() {
        Calls.sentence(TERMS, "Behind the last LINE it ends with EXIT 0.");
        String[] texts = {"", "\n", "A:", "A:\n\nB:\n", "let a 5", "let a 5\n", "let a 5\n\n", "go A\nexit 1\nA:", "if 1 = 1 go A\nexit 1\nA:\n"};
        int[] lines = {0, 1, 1, 3, 1, 1, 2, 3, 3};
        for (int i = 0; i < texts.length; i++) {
            new Calls().with(0, texts[i]).ends(9, 9, 0, lines[i]);
        }
        Calls c = new Calls().with(0, "let b 5\nrun b 1 0\nexit 3").with(1, "let a 7");
        c.ends(0, 9, 3, 2);
        c.registerIs(1, 0);
    }
}
