/** What the document says before and behind its promises: "What it is" and "Not promised". */
final class WholeTest {
    private static final String WHAT_IT_IS = "What it is";
    private static final String NOT_PROMISED = "Not promised";
    /** What a call may change, as seenOf tells it. */
    private static final int FILES = 0;
    private static final int LATEST_RUN = 1;
    private static final int PROGRAMS = 2;
    private static final int TAPE = 3;
    private static final int PLANTED = 4;
    private static final String[] PARTS = {"files", "latest run", "programs", "tape", "planted"};

    private interface Call {
        void on(StepPrograms x);
    }

    public static void main(String[] args) {
        textsAreChecked();
        stepByStepOverFiles();
        loopsCallsChildrenCells();
        exitsForAllThatGoesWrong();
        stepsAreEndedBeyondABound();
        whatIsNotPlantedCannotBeAsked();
        changesOfTextAndLoad();
        changesOfFilesAndPlanting();
        changesOfRuns();
        looksChangeNothing();
        Calls.finish();
    }

    private static void textsAreChecked() {
        Calls.sentence(WHAT_IT_IS, "Tools as scripts: texts of statements, checked");
        Calls c = new Calls();
        Calls.due("a fault that no run would reach", c.load(0, "exit 5\nexit"), 1);
        Calls.due("so there is none to run", c.x.run(0, 0, 9), -1);
        c.with(0, "exit 5\nexit 6");
        c.ends(0, 9, 5, 0);
    }

    private static void stepByStepOverFiles() {
        Calls.sentence(WHAT_IT_IS, "run step by step over a few files");
        String[] steps = {"write 0 1", "write 9 2", "copy 9 0", "write 0 3", "drop 9"};
        int[] sizes = {0, 1, 1, 1, 2, 2};
        int[] others = {-1, -1, 1, 1, 1, -1};
        String all = String.join("\n", steps);
        for (int bound = 1; bound <= 5; bound++) {
            Calls c = new Calls().with(0, all);
            Calls.due("bound " + bound, c.x.run(0, 0, bound), bound < 5 ? 107 : 0);
            Calls.due("steps", c.x.about(0), bound);
            Calls.due("file 0", c.x.size(0), sizes[bound]);
            Calls.due("file 9", c.x.size(9), others[bound]);
        }
    }

    private static void loopsCallsChildrenCells() {
        Calls.sentence(WHAT_IT_IS, "loops, calls, children, cells");
        // cell i becomes the sum of the squares up to i: the child squares, a call adds
        Calls c = new Calls().with(1, "let b a * a\nput 3 99\nexit b")
            .with(0, "L:\nrun e 1 b\ncall S\nlet b b + 1\nif b < 5 go L\nget g 3\nget h 4\nexit h\nS:\nlet f f + e\nput b f\nback");
        c.ends(0, 200, 30, 7);
        c.registerIs(6, 14);
        c.registerIs(7, 30);
        // ten for each of five rounds, three of them the child's, and three behind the loop
        Calls.due("steps", c.x.about(0), 53);
        Calls.due("begun", c.x.about(5), 6);
    }

    private static void exitsForAllThatGoesWrong() {
        Calls.sentence(WHAT_IT_IS, "exits for all that goes wrong");
        String[] scripts = {"drop 0", "get b 32", "let b 1 / 0", "L:\nerr 1\ngo L", "back", "ask b 0", "L:\ngo L"};
        for (int i = 0; i < scripts.length; i++) {
            Calls c = new Calls().with(1, scripts[i]).with(0, "run b 1 0\nexit 1");
            Calls.due(scripts[i], c.x.run(1, 0, 500), 101 + i);
            boolean all = i == 6;
            Calls.due("as a child " + scripts[i], c.x.run(0, 0, 500), all ? 107 : 1);
            c.registerIs(1, all ? 0 : 101 + i);
        }
    }

    private static void stepsAreEndedBeyondABound() {
        Calls.sentence(WHAT_IT_IS, "steps counted and ended beyond a bound");
        Calls c = new Calls().with(0, "L:\nlet b b + 1\ngo L");
        for (int bound : new int[] {1, 2, 3, 1999, 2000}) {
            c.ends(0, bound, 107, bound % 2 == 0 ? 1 : 2);
            Calls.due("steps", c.x.about(0), bound);
            c.registerIs(1, (bound + 1) / 2);
        }
    }

    private static void whatIsNotPlantedCannotBeAsked() {
        Calls.sentence(WHAT_IT_IS, "what isn't planted can't be asked, so that a run is a function of files and argument alone");
        Calls c = new Calls().with(0, "ask b a").with(1, "run c 0 a\nexit c");
        for (int what = 0; what < 3; what++) {
            c.ends(what, 9, 106, 0);
            Calls.due("by a child", c.x.run(1, what, 9), 106 & 63);
        }
        // what is planted, too, is told of this run alone
        c.planted().with(2, "ask b 0\nask c 1\nask d 2\nexit 1");
        for (int round = 0; round < 3; round++) {
            Calls.due("run", c.x.run(2, 0, 9), 1);
            c.registerIs(1, 0);
            c.registerIs(2, 1);
            c.registerIs(3, 2);
        }
    }

    /** An object in which all that a call could touch is there. */
    private static Calls full() {
        Calls c = new Calls().withFile(0, 5, 6).withFile(1);
        c.with(0, "out 1\nerr 2\nlet b 3\nexit 4").with(1, "write 0 7\nexit 6");
        Calls.due("plant", c.x.plant(1, true), true);
        Calls.due("run", c.x.run(0, 9, 50), 4);
        Calls.due("text", c.write("exit 3"), true);
        return c;
    }

    /** All that calls can show of an object; looking changes it, so this is its last use. */
    private static String[] seenOf(Calls c) {
        String[] seen = new String[PARTS.length];
        seen[FILES] = c.shownFiles();
        seen[LATEST_RUN] = c.shown().substring(seen[FILES].length());
        seen[PROGRAMS] = "";
        for (int program = 0; program < 4; program++) {
            seen[PROGRAMS] += " " + c.x.run(program, 0, 50);
        }
        seen[TAPE] = c.x.load(2) + " " + c.x.run(2, 0, 50);
        seen[PLANTED] = "";
        c.with(2, "ask b a");
        for (int what = 0; what < 3; what++) {
            seen[PLANTED] += " " + c.x.run(2, what, 50);
        }
        return seen;
    }

    private static void changes(String what, Call call, int... parts) {
        Calls c = full();
        call.on(c.x);
        String[] before = seenOf(full());
        String[] behind = seenOf(c);
        for (int part = 0; part < PARTS.length; part++) {
            boolean may = false;
            for (int named : parts) {
                may |= named == part;
            }
            Calls.due(what + " changes " + PARTS[part], !behind[part].equals(before[part]), may);
        }
    }

    private static void promisedChanges() {
        Calls.sentence(NOT_PROMISED, "Nothing is promised beyond the answers and state changes described above");
    }

    private static void changesOfTextAndLoad() {
        promisedChanges();
        changes("text", x -> x.text(Calls.packed("1")), TAPE);
        changes("text of zeros", x -> x.text(0));
        changes("refused text", x -> x.text(Calls.packed("1\t")));
        changes("load", x -> x.load(3), PROGRAMS, TAPE);
        changes("load over one", x -> x.load(0), PROGRAMS, TAPE);
        changes("load of a wrong number", x -> x.load(4), TAPE);
        changes("ill load", x -> {
            x.text(Calls.packed(" x"));
            x.load(0);
        }, TAPE);
    }

    private static void changesOfFilesAndPlanting() {
        promisedChanges();
        changes("file", x -> x.file(0, 1, 1), FILES);
        changes("refused file", x -> x.file(10, 1, 1));
        changes("file of 9 bytes", x -> x.file(0, 1, 9));
        changes("clear", x -> x.clear(0, true), FILES);
        changes("clear of an empty one", x -> x.clear(1, true));
        changes("clear of one that isn't there", x -> x.clear(2, false));
        changes("refused clear", x -> x.clear(10, true));
        changes("plant", x -> x.plant(0, true), PLANTED);
        changes("plant off", x -> x.plant(1, false), PLANTED);
        changes("plant again", x -> x.plant(1, true));
        changes("refused plant", x -> x.plant(3, true));
    }

    private static void changesOfRuns() {
        promisedChanges();
        changes("run", x -> x.run(0, 8, 50), LATEST_RUN);
        changes("the same run again", x -> x.run(0, 9, 50));
        changes("a run over files", x -> x.run(1, 0, 50), FILES, LATEST_RUN);
        changes("a run that is ended", x -> x.run(0, 9, 1), LATEST_RUN);
        changes("no program", x -> x.run(2, 8, 50));
        changes("no bound", x -> x.run(0, 8, 0));
        changes("too large a bound", x -> x.run(0, 8, 2001));
    }

    private static void looksChangeNothing() {
        promisedChanges();
        for (int i = -1; i <= 10; i++) {
            int k = i;
            changes("about", x -> x.about(k));
            changes("said", x -> x.said(k, k));
            changes("register", x -> x.register(k));
            changes("size", x -> x.size(k));
            changes("byteOf", x -> x.byteOf(k, k));
        }
    }
}
