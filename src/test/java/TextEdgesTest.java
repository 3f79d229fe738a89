/** The edges of promises 2 and 3, text and load, each sentence with a test of its own. */
final class TextEdgesTest {
    private static final String TEXT = "Promise 2: text";
    private static final String LOAD = "Promise 3: load";

    public static void main(String[] args) {
        upToEightCharacters();
        theHighestByteFirst();
        zerosAreLeftOut();
        wrongCharacters();
        notMoreThan400();
        theTapeBecomesAProgram();
        theTapeIsEmptyThen();
        theIllLine();
        theProgramStaysAsItWas();
        noSuchNumber();
        programsAreZeroToThree();
        aTextOf400Characters();
        linesEndWith10OrTheText();
        linesAreNumberedFromZero();
        Calls.finish();
    }

    /** As many empty LINES, so that about(4) tells behind a run how many characters came. */
    private static Calls withLines(int count) {
        Calls c = new Calls();
        Calls.due("text", c.write("\n".repeat(count)), true);
        return c;
    }

    private static void tapeHasLines(Calls c, int count) {
        Calls.due("load", c.x.load(0), -1);
        c.ends(0, 1, 0, count);
    }

    private static void upToEightCharacters() {
        Calls.sentence(TEXT, "Up to eight characters come onto the TAPE");
        for (int count = 0; count <= 8; count++) {
            Calls c = new Calls();
            Calls.due("text", c.x.text(Calls.packed("\n".repeat(count))), true);
            tapeHasLines(c, count);
        }
        // behind what is there
        Calls c = new Calls();
        Calls.due("text", c.x.text(Calls.packed("exit")), true);
        Calls.due("text", c.x.text(Calls.packed(" ")), true);
        Calls.due("text", c.x.text(Calls.packed("1")), true);
        Calls.due("text", c.x.text(Calls.packed("2\nexit 3")), true);
        Calls.due("load", c.x.load(0), -1);
        c.ends(0, 9, 12, 0);
    }

    private static void theHighestByteFirst() {
        Calls.sentence(TEXT, "the highest byte first");
        Calls c = new Calls();
        Calls.due("text", c.x.text(0x6578697420313220L), true);
        Calls.due("load", c.x.load(0), -1);
        c.ends(0, 9, 12, 0);
        Calls.due("text", c.x.text(0x657869742032310aL), true);
        Calls.due("load", c.x.load(0), -1);
        c.ends(0, 9, 21, 0);
        // the other way round it isn't a statement
        Calls.due("text", c.x.text(0x2031327469786520L), true);
        Calls.due("load", c.x.load(0), 0);
    }

    private static void zerosAreLeftOut() {
        Calls.sentence(TEXT, "0 ones being left out: true");
        Calls c = new Calls();
        Calls.due("zeros alone", c.x.text(0), true);
        Calls.due("behind each", c.x.text(0x6500780069007400L), true);
        Calls.due("before each", c.x.text(0x0020003100300000L), true);
        Calls.due("zeros alone", c.x.text(0), true);
        Calls.due("load", c.x.load(0), -1);
        c.ends(0, 9, 10, 0);
        for (int place = 0; place < 8; place++) {
            Calls d = new Calls();
            Calls.due("one at place " + place, d.x.text(10L << 8 * place), true);
            tapeHasLines(d, 1);
        }
        tapeHasLines(new Calls(), 0);
        Calls d = new Calls();
        Calls.due("zeros alone", d.x.text(0), true);
        tapeHasLines(d, 0);
    }

    private static void wrongCharacters() {
        Calls.sentence(TEXT, "false, and none come, if one is neither 10 nor 32 .. 126");
        for (long no : new long[] {1, 9, 11, 13, 31, 127, 128, 138, 160, 255}) {
            for (int place = 0; place < 8; place++) {
                Calls c = new Calls();
                Calls.due("text", c.x.text(Calls.packed("exit 3")), true);
                long others = 0x3939393939393939L & ~(255L << 8 * place);
                Calls.due(no + " at place " + place, c.x.text(others | no << 8 * place), false);
                Calls.due(no + " alone", c.x.text(no << 8 * place), false);
                Calls.due("text", c.x.text(Calls.packed("1")), true);
                Calls.due("load", c.x.load(0), -1);
                c.ends(0, 9, 31, 0);
            }
        }
        for (int place = 0; place < 8; place++) {
            Calls c = new Calls();
            Calls.due("10", c.x.text(10L << 8 * place), true);
            Calls.due("32", c.x.text(32L << 8 * place), true);
            Calls.due("10", c.x.text(10L << 8 * place), true);
            Calls.due("126", c.x.text(126L << 8 * place), true);
            Calls.due("load: ~ is in LINE 2", c.x.load(0), 2);
        }
        for (char fine = 33; fine <= 126; fine++) {
            Calls c = new Calls();
            Calls.due("character " + (int) fine, c.x.text(fine), true);
            Calls.due("load: it came", c.x.load(0), 0);
        }
    }

    private static void notMoreThan400() {
        Calls.sentence(TEXT, "or there would be more than 400");
        for (int more = 1; more <= 8; more++) {
            long w = Calls.packed("\n".repeat(more));
            Calls c = withLines(400 - more);
            Calls.due("up to 400", c.x.text(w), true);
            Calls.due("one beyond", c.x.text(10), false);
            Calls.due("eight beyond", c.x.text(Calls.packed("\n".repeat(8))), false);
            Calls.due("none beyond", c.x.text(0), true);
            tapeHasLines(c, 400);
            Calls d = withLines(401 - more);
            Calls.due("up to 401", d.x.text(w), false);
            tapeHasLines(d, 401 - more);
            Calls e = withLines(401 - more);
            Calls.due("up to 401", e.x.text(w), false);
            Calls.due("one less", e.x.text(w >>> 8), true);
            tapeHasLines(e, 400);
        }
        // zeros don't count
        Calls c = withLines(399);
        Calls.due("one among zeros", c.x.text(0x00000a0000000000L), true);
        tapeHasLines(c, 400);
    }

    private static void theTapeBecomesAProgram() {
        Calls.sentence(LOAD, "The TAPE (which is empty then, in any case) becomes a PROGRAM: NONE");
        Calls c = new Calls();
        Calls.due("an empty tape", c.x.load(0), -1);
        c.ends(0, 1, 0, 0);
        Calls.due("one character", c.load(0, " "), -1);
        c.ends(0, 1, 0, 1);
        Calls.due("a statement", c.load(0, "exit 7"), -1);
        c.ends(0, 1, 7, 0);
        Calls.due("the new one instead", c.load(0, "exit 8"), -1);
        c.ends(0, 1, 8, 0);
    }

    private static void theTapeIsEmptyThen() {
        Calls.sentence(LOAD, "(which is empty then, in any case)");
        int[] programs = {0, 3, 0, -1, 4};
        String[] texts = {"\n", "exit 1\n", "exit 1\nill ", "exit 1\n", "exit 1\nill "};
        int[] answers = {-1, -1, 1, -2, -2};
        for (int i = 0; i < programs.length; i++) {
            Calls c = new Calls();
            Calls.due("load", c.load(programs[i], texts[i]), answers[i]);
            tapeHasLines(c, 0);
            // and there is room for 400 again
            Calls d = withLines(400);
            Calls.due("full", d.x.text(10), false);
            Calls.due("load", d.x.load(programs[i]), programs[i] == -1 || programs[i] == 4 ? -2 : -1);
            Calls.due("text", d.write("\n".repeat(400)), true);
            Calls.due("full", d.x.text(10), false);
            tapeHasLines(d, 400);
        }
        Calls c = new Calls();
        Calls.due("text", c.write("\n".repeat(396) + "ill "), true);
        Calls.due("ill at its last line", c.x.load(2), 396);
        Calls.due("text", c.write("\n".repeat(400)), true);
        tapeHasLines(c, 400);
    }

    private static void theIllLine() {
        Calls.sentence(LOAD, "the LINE at which it is ILL");
        for (int line : new int[] {0, 1, 2, 398, 399}) {
            String before = "\n".repeat(line);
            Calls.due("at " + line, new Calls().load(0, before + "x"), line);
            Calls.due("none at " + line, new Calls().load(0, before + " "), -1);
        }
    }

    private static void theProgramStaysAsItWas() {
        Calls.sentence(LOAD, "(the PROGRAM stays as it was)");
        for (String ill : new String[] {"x", "exit 6\nx", "exit 6\nA:\nA:", "exit 6\ngo B"}) {
            int line = ill.split("\n").length - 1;
            for (int program = 0; program <= 3; program++) {
                Calls c = new Calls();
                Calls.due("load", c.load(program, ill), line);
                Calls.due("not there still", c.x.run(program, 0, 9), -1);
                c.with(program, "\nexit 5");
                Calls.due("load", c.load(program, ill), line);
                Calls.due("as it was", c.x.run(program, 0, 9), 5);
                Calls.due("its line", c.x.about(4), 1);
            }
        }
    }

    private static void noSuchNumber() {
        Calls.sentence(LOAD, "- 2 if there is no such number");
        Calls c = new Calls().with(0, "exit 10").with(3, "exit 13");
        for (int no : Calls.outside(0, 3)) {
            Calls.due("load " + no, c.load(no, "exit 7"), -2);
            Calls.due("ill, load " + no, c.load(no, "x"), -2);
            Calls.due("empty, load " + no, c.load(no, ""), -2);
        }
        Calls.due("run 0", c.x.run(0, 0, 9), 10);
        Calls.due("run 1", c.x.run(1, 0, 9), -1);
        Calls.due("run 2", c.x.run(2, 0, 9), -1);
        Calls.due("run 3", c.x.run(3, 0, 9), 13);
        Calls.due("load 0", c.load(0, "exit 20"), -1);
        Calls.due("load 3", c.load(3, "exit 23"), -1);
        Calls.due("run 0", c.x.run(0, 0, 9), 20);
        Calls.due("run 3", c.x.run(3, 0, 9), 23);
    }

    private static void programsAreZeroToThree() {
        Calls.sentence("Promises 3, 7, Terms", "PROGRAMS 0 .. 3 are there or not.");
        for (int there = 0; there <= 3; there++) {
            Calls c = new Calls().with(there, "exit 9");
            for (int program = -1; program <= 4; program++) {
                Calls.due("run " + program, c.x.run(program, 0, 9), program == there ? 9 : -1);
            }
        }
    }

    private static void aTextOf400Characters() {
        Calls.sentence("Promises 2, 3, Terms", "A PROGRAM is a text of at most 400 characters (10, 32 .. 126)");
        Calls c = new Calls().with(0, "\n".repeat(393) + "exit 21");
        c.ends(0, 1, 21, 393);
        c.with(0, " ".repeat(393) + "exit 22");
        c.ends(0, 1, 22, 0);
        Calls.due("text", c.write("\n".repeat(393) + "exit 21"), true);
        Calls.due("the 401st", c.x.text(Calls.packed("3")), false);
        Calls.due("load", c.x.load(0), -1);
        c.ends(0, 1, 21, 393);
        // a text of 399 characters takes the 400th
        Calls.due("text", c.write("\n".repeat(393) + "exit 2"), true);
        Calls.due("the 400th", c.x.text(Calls.packed("3")), true);
        Calls.due("load", c.x.load(0), -1);
        c.ends(0, 1, 23, 393);
        // as many statements as there can be, the last of them reached
        c.with(0, "go Z\n" + "back\n".repeat(77) + "Z:\nback\nA:");
        c.ends(0, 9, 105, 79);
    }

    private static void linesEndWith10OrTheText() {
        Calls.sentence("Promise 3, Terms", "in LINES (each ended by 10, or the text's end, so that a 10 at the end begins none more");
        String[] texts = {"", "\n", " ", " \n", "\n ", "\n\n", "let b 1", "let b 1\n", "let b 1\n ", "let b 1\n\n", "A:", "A:\n", "A:\n\n"};
        int[] lines = {0, 1, 1, 1, 2, 2, 1, 1, 2, 2, 1, 1, 2};
        for (int i = 0; i < texts.length; i++) {
            new Calls().with(0, texts[i]).ends(0, 9, 0, lines[i]);
        }
        Calls.due("10 ends a word, too", new Calls().load(0, "let b\n1"), 0);
        Calls.due("10 ends a label, too", new Calls().load(0, "A\n:"), 0);
    }

    private static void linesAreNumberedFromZero() {
        Calls.sentence("Promises 3, 8, Terms", "numbered from 0");
        Calls.due("the first", new Calls().load(0, "x"), 0);
        Calls.due("the second", new Calls().load(0, "\nx"), 1);
        Calls.due("the last, without 10", new Calls().load(0, "A:\nback\nx"), 2);
        Calls.due("the last, with 10", new Calls().load(0, "A:\nback\nx\n"), 2);
        new Calls().with(0, "exit 1").ends(0, 9, 1, 0);
        new Calls().with(0, "\nexit 1\n").ends(0, 9, 1, 1);
    }
}
