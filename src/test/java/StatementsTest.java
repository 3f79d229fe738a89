/** What each STATEMENT does (the terms on which promise 7, run, rests). */
final class StatementsTest {
    public static void main(String[] args) {
        letTakesNumbersAndRegisters();
        letCalculatesIn32Bits();
        cells();
        filesOfPrograms();
        outAndErr();
        jumps();
        calls();
        children();
        asking();
        exits();
        Calls.finish();
    }

    private static void letTakesNumbersAndRegisters() {
        Calls.due("number", Calls.valueOf("let a 999999", 0), 999999);
        Calls.due("negative", Calls.valueOf("let a -999999", 0), -999999);
        Calls.due("with zeros", Calls.valueOf("let a -000012", 0), -12);
        Calls.due("argument stays", Calls.valueOf("let b 4", Integer.MIN_VALUE), Integer.MIN_VALUE);
        Calls c = new Calls().with(0, "let b a\nlet c b\nlet d c\nlet e d\nlet f e\nlet g f\nlet h g\nlet a 1");
        c.ends(77, 99, 0, 8);
        for (int k = 1; k < 8; k++) {
            c.registerIs(k, 77);
        }
        c.registerIs(0, 1);
        c.with(0, "");
        c.ends(-5, 9, 0, 0);
        c.registerIs(0, -5);
        for (int k = 1; k < 8; k++) {
            c.registerIs(k, 0);
        }
    }

    private static void letCalculatesIn32Bits() {
        int[] numbers = {0, 1, -1, 2, -2, 7, -7, 100000, 999999, -999999};
        for (int x : numbers) {
            for (int y : numbers) {
                value(x, "+", y, x + y);
                value(x, "-", y, x - y);
                value(x, "*", y, x * y);
                value(x, "&", y, x & y);
                value(x, "|", y, x | y);
                value(x, "^", y, x ^ y);
                value(x, "<", y, x < y ? 1 : 0);
                value(x, "=", y, x == y ? 1 : 0);
                if (y != 0) {
                    value(x, "/", y, x / y);
                    value(x, "%", y, x % y);
                }
            }
        }
        Calls.due("7 / -2", Calls.valueOf("let a 7 / -2", 0), -3);
        Calls.due("-7 % 2", Calls.valueOf("let a -7 % 2", 0), -1);
        Calls.due("max + 1", Calls.valueOf("let a a + 1", Integer.MAX_VALUE), Integer.MIN_VALUE);
        Calls.due("min - 1", Calls.valueOf("let a a - 1", Integer.MIN_VALUE), Integer.MAX_VALUE);
        Calls.due("min / -1", Calls.valueOf("let a a / -1", Integer.MIN_VALUE), Integer.MIN_VALUE);
        Calls.due("min % -1", Calls.valueOf("let a a % -1", Integer.MIN_VALUE), 0);
        Calls.due("min < max", Calls.valueOf("let b 0 - 1\nlet b b - a\nlet a a < b", Integer.MIN_VALUE), 1);
        Calls.due("both the same", Calls.valueOf("let a a * a", 65537), 65537 * 65537);
    }

    private static void value(int x, String o, int y, int want) {
        Calls.due(x + o + y, Calls.valueOf("let a " + x + " " + o + " " + y, 3), want);
    }

    private static void cells() {
        Calls.due("zero at first", Calls.valueOf("get a 31", 5), 0);
        Calls.due("put", Calls.valueOf("put 31 a\nput 0 8\nget b 0\nget a 31\nlet a a + b", 5), 13);
        Calls.due("by register", Calls.valueOf("put a 40\nlet b a\nget a b", 17), 40);
        Calls c = new Calls().with(0, "get b 3\nput 3 a");
        c.ends(4, 9, 0, 2);
        c.ends(5, 9, 0, 2);
        c.registerIs(1, 0);
    }

    private static void filesOfPrograms() {
        Calls c = new Calls().withFile(0, 200, 255).with(0,
            "size b 0\nsize c 1\nread d 0 1\nwrite 1 -1\nwrite 1 256\nwrite 0 a\nsize e 1\ncopy 0 2\ndrop 0\nsize f 0\ncopy 2 1\ncopy 2 2");
        c.ends(513, 99, 0, 12);
        c.registerIs(1, 2);
        c.registerIs(2, -1);
        c.registerIs(3, 255);
        c.registerIs(4, 2);
        c.registerIs(5, -1);
        Calls.due("dropped", c.x.size(0), -1);
        c.fileIs(1, 200, 255, 1);
        c.fileIs(2, 200, 255, 1);
        c.with(0, "write 3 -1\nwrite 3 256");
        c.ends(0, 9, 0, 2);
        c.fileIs(3, 255, 0);
        c.with(0, "write 3 9\nwrite 2 8\ndrop 1\nwrite 1 4");
        c.ends(0, 9, 0, 4);
        c.fileIs(1, 4);
        c.fileIs(2, 200, 255, 1, 8);
        c.fileIs(3, 255, 0, 9);
        Calls d = new Calls().withFile(4).withFile(5, 1, 2, 3).with(0, "size a 4\ncopy 4 5");
        d.ends(9, 9, 0, 2);
        d.registerIs(0, 0);
        d.fileIs(5);
    }

    private static void outAndErr() {
        Calls c = new Calls().with(0, "out 1\nerr 2\nout -1\nout 256\nerr a");
        c.ends(-2, 9, 0, 5);
        c.hasSaid(0, 1, 255, 0);
        c.hasSaid(1, 2, 254);
        c.with(0, "out 9");
        c.ends(0, 9, 0, 1);
        c.hasSaid(0, 9);
        c.hasSaid(1);
    }

    private static void jumps() {
        Calls.due("loop", Calls.valueOf("L:\nlet b b + a\nlet a a - 1\nif a > 0 go L\nlet a b", 10), 55);
        Calls.due("go over", Calls.valueOf("go Z\nlet a 1\nZ:", 7), 7);
        Calls.due("go to the end", Calls.valueOf("go Z\nlet a 1\nZ:\n", 7), 7);
        int[] numbers = {-1, 0, 1};
        for (int x : numbers) {
            for (int y : numbers) {
                Calls.due(x + " < " + y, Calls.valueOf("if " + x + " < " + y + " go A\nlet a 0\nA:", 1), x < y ? 1 : 0);
                Calls.due(x + " = " + y, Calls.valueOf("if " + x + " = " + y + " go A\nlet a 0\nA:", 1), x == y ? 1 : 0);
                Calls.due(x + " > " + y, Calls.valueOf("if " + x + " > " + y + " go A\nlet a 0\nA:", 1), x > y ? 1 : 0);
            }
        }
    }

    private static void calls() {
        Calls.due("back behind the call", Calls.valueOf("call A\ncall A\ngo Z\nA:\nlet a a * 3\nback\nZ:", 2), 18);
        Calls.due("nested", Calls.valueOf("call A\ngo Z\nA:\ncall B\nlet a a + 1\nback\nB:\nlet a a * 10\nback\nZ:", 4), 41);
        Calls.due("eight open", Calls.valueOf("A:\nlet a a + 1\nif a = 9 go Z\ncall A\nZ:\nif b = 8 go Y\nlet b b + 1\nback\nY:", 0), 9);
        Calls c = new Calls().with(0, "let b 30\nL:\ncall A\nlet b b - 1\nif b > 0 go L\ngo Z\nA:\nlet a a + 1\nback\nZ:");
        c.ends(0, 2000, 0, 10);
        c.registerIs(0, 30);
    }

    private static void children() {
        Calls c = new Calls()
            .with(0, "let b 6\nput 1 9\nwrite 1 1\ncall S\nget c 1\nexit 3\nS:\nrun d 2 40\nback")
            .with(2, "let h a + b\nget g 1\nlet h h + g\nput 1 5\nout h\nwrite 1 h\nlet c 8\nexit h");
        c.ends(1, 99, 3, 5);
        c.registerIs(0, 1);
        c.registerIs(1, 6);
        c.registerIs(2, 9);
        c.registerIs(3, 40);
        c.registerIs(7, 0);
        c.hasSaid(0, 40);
        c.fileIs(1, 1, 40);
        Calls.due("steps", c.x.about(0), 16);
        Calls.due("deep", c.x.about(3), 1);
        Calls.due("begun", c.x.about(5), 2);
        // the second child of the same depth finds nothing of the first one
        Calls d = new Calls().with(0, "run b 1 5\nrun c 1 6\nrun a 1 a").with(1, "get b 0\nlet c c + 1\nput 0 7\nlet a a + b\nlet a a + c\nexit a");
        d.ends(9, 99, 0, 3);
        d.registerIs(1, 6);
        d.registerIs(2, 7);
        d.registerIs(0, 10);
        Calls.due("deep", d.x.about(3), 1);
        Calls.due("begun", d.x.about(5), 4);
        // a child's open calls are its own, too
        Calls e = new Calls().with(0, "call A\nexit b\nA:\nrun b 1 0\nback").with(1, "back");
        e.ends(0, 99, 105 & 63, 1);
        e.registerIs(1, 105);
    }

    private static void asking() {
        Calls c = new Calls().planted()
            .with(0, "ask b 0\nrun c 1 0\nA:\nask d 0\nask e 1\nask f 2\nrun g 1 1\nask h 1")
            .with(1, "let b 0\n\nif a = 1 go T\nask c 2\nexit c\nT:\nask d 0\nout d\nask d 1\nexit d");
        c.ends(5, 99, 0, 8);
        c.registerIs(1, 0);
        c.registerIs(2, 1003 & 63);
        c.registerIs(3, 6);
        c.registerIs(4, 2);
        c.registerIs(5, 5);
        c.registerIs(6, 3);
        c.registerIs(7, 3);
        c.hasSaid(0, 12);
        Calls d = new Calls().planted().with(0, "if a = 3 go A\nlet a a + 1\nrun b 0 a\nexit 9\nA:\nask a 2\nlet b a / 1000\nout b\nlet b a % 1000\nout b");
        d.ends(0, 99, 9, 3);
        d.hasSaid(0, 3, 5);
    }

    private static void exits() {
        int[] exits = {0, 1, 63, 64, 65, -1, -64, 999999, -999999};
        for (int x : exits) {
            new Calls().with(0, "\nexit " + x + "\nexit 1").ends(0, 9, Math.floorMod(x, 64), 1);
        }
        new Calls().with(0, "exit a").ends(Integer.MIN_VALUE, 9, 0, 0);
        new Calls().with(0, "exit a").ends(Integer.MAX_VALUE, 9, 63, 0);
    }
}
