/** Promise 2: text. Promise 3: load, and with it what a PROGRAM is, and where it is ILL. */
final class TextAndLoadTest {
    public static void main(String[] args) {
        charactersComeHighestFirst();
        wrongCharactersAreRefusedWhole();
        theTapeEndsAt400();
        loadEmptiesTheTape();
        linesAreCounted();
        wordsAreSeparatedByBlanks();
        goodStatements();
        badStatements();
        labels();
        anIllTextLeavesTheProgram();
        Calls.finish();
    }

    private static void charactersComeHighestFirst() {
        Calls c = new Calls();
        Calls.due("text", c.x.text(Calls.packed("exit 12\n")), true);
        Calls.due("load", c.x.load(0), -1);
        c.ends(0, 5, 12, 0);
        // zero bytes are left out wherever they stand
        Calls.due("text", c.x.text(0x6500780069007400L), true);
        Calls.due("text", c.x.text(0L), true);
        Calls.due("text", c.x.text(0x0020000000340000L), true);
        Calls.due("load", c.x.load(0), -1);
        c.ends(0, 5, 4, 0);
    }

    private static void wrongCharactersAreRefusedWhole() {
        for (int bad = 1; bad < 256; bad++) {
            boolean fine = bad == 10 || bad >= 32 && bad <= 126;
            for (int place = 0; place < 8; place += 7) {
                Calls c = new Calls();
                long w = Calls.packed("        ") & ~(255L << 8 * place) | (long) bad << 8 * place;
                Calls.due("text with " + bad, c.x.text(w), fine);
                if (!fine) {
                    c.with(0, "exit 3");
                    c.ends(0, 5, 3, 0);
                }
            }
        }
    }

    private static void theTapeEndsAt400() {
        Calls c = new Calls();
        for (int i = 0; i < 49; i++) {
            Calls.due("text", c.x.text(Calls.packed("\n\n\n\n\n\n\n\n")), true);
        }
        Calls.due("seven more", c.x.text(Calls.packed("\n\n\n\n\n\n\n")), true);
        Calls.due("two beyond", c.x.text(Calls.packed("  ")), false);
        Calls.due("nothing", c.x.text(0), true);
        Calls.due("the last", c.x.text(Calls.packed("\n")), true);
        Calls.due("one beyond", c.x.text(Calls.packed(" ")), false);
        Calls.due("nothing still", c.x.text(0), true);
        Calls.due("load", c.x.load(3), -1);
        Calls.due("run", c.x.run(3, 0, 1), 0);
        Calls.due("lines", c.x.about(4), 400);
        // 80 statements, the most that a text can have
        c.with(0, "back\n".repeat(80));
        Calls.due("run", c.x.run(0, 0, 1), 105);
    }

    private static void loadEmptiesTheTape() {
        Calls c = new Calls();
        for (int program : new int[] {-1, 4, Integer.MIN_VALUE, Integer.MAX_VALUE}) {
            Calls.due("no such number", c.load(program, "exit 1"), -2);
            c.with(0, "exit 1");
            Calls.due("no such number, ill", c.load(program, "nonsense"), -2);
            c.with(0, "exit 1");
        }
        Calls.due("ill", c.load(0, "nonsense "), 0);
        c.with(0, "exit 2");
        c.with(1, "");
        c.ends(0, 5, 2, 0);
        Calls.due("the empty one", c.x.run(1, 0, 5), 0);
        Calls.due("its end", c.x.about(4), 0);
        for (int program = 0; program < 4; program++) {
            c.with(program, "exit " + (10 + program));
        }
        for (int program = 0; program < 4; program++) {
            Calls.due("run", c.x.run(program, 0, 5), 10 + program);
        }
    }

    private static void linesAreCounted() {
        String[] texts = {"", "\n", "\n\n", " ", " \n", "let a 1", "let a 1\n", "let a 1\n\n", "A:\n\nlet a 1\nB:"};
        int[] lines = {0, 1, 2, 1, 1, 1, 1, 2, 4};
        for (int i = 0; i < texts.length; i++) {
            new Calls().with(0, texts[i]).ends(0, 5, 0, lines[i]);
        }
        Calls.due("ill line", new Calls().load(0, "\n\nlet a 1\nA:\nlet"), 4);
        Calls.due("ill line before the end", new Calls().load(0, "\n let \nA:\nlet"), 1);
        Calls.due("nothing ill behind the last 10", new Calls().load(0, "back\n"), -1);
    }

    private static void wordsAreSeparatedByBlanks() {
        new Calls().with(0, "   let    a   1   +    2   \n  A:  \n   ").ends(0, 5, 0, 3);
        new Calls().with(0, "  exit   7 ").ends(0, 5, 7, 0);
        ill("leta 1", "let a1", "exit7", "let a 1 +2", "let a 1+2", "A :", "A: back", "back A:", ": A", "b ack");
    }

    private static void goodStatements() {
        String[] good = {"let a 1", "let h a", "let a -999999", "let a 000001", "let a -0", "let a b ^ -3", "let a 1 - 2",
            "let a - 1".replace("- 1", "-1"), "get a 1", "get h h", "put 1 2", "put a b", "size a 1", "size a b", "read a 1 2",
            "read a b c", "write 1 2", "write a b", "drop 1", "drop a", "copy 1 2", "copy a b", "out 1", "out a", "err 1",
            "err a", "back", "run a 1 2", "run a b c", "ask a 1", "ask a b", "exit 1", "exit a"};
        for (String line : good) {
            Calls.due(line, new Calls().load(0, line), -1);
        }
        for (String o : "+ - * / % & | ^ < =".split(" ")) {
            Calls.due(o, new Calls().load(0, "let a b " + o + " c"), -1);
        }
        for (String o : "< = >".split(" ")) {
            Calls.due(o, new Calls().load(0, "Z:\nif a " + o + " c go Z"), -1);
        }
        Calls.due("go", new Calls().load(0, "go Z\ncall Z\nif 1 < 2 go Z\nZ:"), -1);
    }

    private static void badStatements() {
        ill("let", "let a", "let a 1 +", "let a 1 + 2 3", "let a 1 + 2 + 3", "let i 1", "let 1 1", "let A 1", "let a i", "let a A",
            "let a -", "let a --1", "let a +1", "let a 1-", "let a 1234567", "let a -1234567", "let a 0000001", "let a 1a",
            "let a aa", "let aa 1", "let a -a", "let a /1", "let a 1:");
        ill("let a 1 > 2", "let a 1 ? 2", "let a 1 ++ 2", "let a 1 == 2", "let a 1 2 3", "let a 1 a 2", "let a 1 ! 2");
        ill("get a", "get 1 1", "get a 1 2", "put 1", "put 1 2 3", "put", "size a", "size 1 1", "size a 1 2", "read a 1", "read 1 1 1",
            "read a 1 2 3", "write 1", "write 1 2 3", "drop", "drop 1 2", "copy 1", "copy 1 2 3", "out", "out 1 2", "err", "err 1 2");
        ill("back 1", "back A", "run a 1", "run 1 1 1", "run a 1 2 3", "ask a", "ask 1 1", "ask a 1 2", "exit", "exit 1 2", "exit A");
        ill("Let a 1", "LET a 1", "lets a 1", "le a 1", "a", "1", "-", ":", "AA:", "a:", "1:", "A;", "A", "A:A", "@:", "[:");
        Calls.due("go alone", new Calls().load(0, "A:\ngo"), 1);
        for (String line : new String[] {"go a", "go 1", "go A A", "go A:", "go AA", "call", "call a", "call A A", "goto A",
            "if 1 < 2 go", "if 1 < 2 A", "if 1 < 2 call A", "if 1 < 2 go A A", "if 1 ! 2 go A", "if 1 + 2 go A", "if 1 << 2 go A",
            "if < 2 go A", "if 1 < go A", "if i < 2 go A", "if 1 < 2 Go A", "if 1 < 2 go a", "if 1 < 2 g A", "if 1 < 2 goo A"}) {
            Calls.due(line, new Calls().load(0, "A:\n" + line), 1);
        }
    }

    private static void labels() {
        Calls.due("twice", new Calls().load(0, "A:\nB:\n\nA:\nB:"), 3);
        Calls.due("all letters", new Calls().load(0, "A:\nB:\nC:\nD:\nE:\nF:\nG:\nH:\nI:\nJ:\nK:\nL:\nM:\nN:\nO:\nP:\nQ:\nR:\nS:\n"
            + "T:\nU:\nV:\nW:\nX:\nY:\nZ:\ngo A\ngo Z"), -1);
        Calls.due("missing", new Calls().load(0, "A:\ngo A\ngo B\ngo C"), 2);
        Calls.due("missing for call", new Calls().load(0, "A:\ncall A\ncall B"), 2);
        Calls.due("missing for if", new Calls().load(0, "A:\nif 1 = 1 go A\nif 1 = 1 go B"), 2);
        Calls.due("a line that isn't so goes ahead", new Calls().load(0, "go B\nA:\nlet"), 2);
        Calls.due("a label twice goes ahead", new Calls().load(0, "go B\nA:\nA:"), 2);
        Calls.due("labels of before are forgotten", new Calls().with(0, "A:").load(0, "go A"), 0);
    }

    private static void anIllTextLeavesTheProgram() {
        Calls c = new Calls();
        Calls.due("ill", c.load(1, "exit 1\nx"), 1);
        Calls.due("not there", c.x.run(1, 0, 5), -1);
        c.with(1, "exit 5");
        Calls.due("ill", c.load(1, "exit 1\nx"), 1);
        Calls.due("ill", c.load(1, "exit 1\ngo A"), 1);
        Calls.due("as it was", c.x.run(1, 0, 5), 5);
        c.with(1, "exit 6");
        Calls.due("the new one", c.x.run(1, 0, 5), 6);
    }

    private static void ill(String... lines) {
        for (String line : lines) {
            Calls.due(line, new Calls().load(0, line), 0);
            Calls.due("behind another: " + line, new Calls().load(0, "\n" + line + "\nback"), 1);
        }
    }
}
