/** The edges of LINES, WORDS, LABELS, STATEMENTS and of ILL, on which promise 3, load, rests. */
final class ScriptEdgesTest {
    private static final String TERMS = "Promise 3, Terms";
    private static final String ALL_LABELS =
        "A:\nB:\nC:\nD:\nE:\nF:\nG:\nH:\nI:\nJ:\nK:\nL:\nM:\nN:\nO:\nP:\nQ:\nR:\nS:\nT:\nU:\nV:\nW:\nX:\nY:\nZ:\n";
    /** Each form of a STATEMENT once, but for its letters that of the document. */
    private static final String[] FORMS = {"let R X", "let R X O Y", "get R X", "put X Y", "size R X", "read R X Y", "write X Y",
        "drop X", "copy X Y", "out X", "err X", "go L", "if X C Y go L", "call L", "back", "run R X Y", "ask R X", "exit X"};

    public static void main(String[] args) {
        wordsAreSeparatedByBlanks();
        aLineIsNothing();
        aLabelIsALetterAndAColon();
        aStatementHasItsWords();
        theFirstWordOfAStatement();
        registersAreAToH();
        operandsAreRegistersOrNumbers();
        numbersHaveOneToSixDigits();
        aLabelsLetter();
        operators();
        comparisons();
        theWordGo();
        theFirstLineThatIsNotSo();
        aLabelThatIsThereAlready();
        theFirstThatNamesNoLabel();
        Calls.finish();
    }

    /** A form with one of its letters written as it is wanted, the others as something fine. */
    private static String filled(String form, String letter, String word) {
        StringBuilder line = new StringBuilder();
        for (String part : form.split(" ")) {
            line.append(line.isEmpty() ? "" : " ").append(part.equals(letter) ? word : fine(part));
        }
        return line.toString();
    }

    private static String fine(String part) {
        return switch (part) {
            case "R" -> "b";
            case "X" -> "1";
            case "Y" -> "c";
            case "O" -> "+";
            case "C" -> "<";
            case "L" -> "A";
            default -> part;
        };
    }

    private static String filled(String form) {
        return filled(form, "", "");
    }

    private static boolean hasLetter(String form, String letter) {
        return (" " + form + " ").contains(" " + letter + " ");
    }

    /** LINE 1 is looked at, whether the PROGRAM is there then, and which LINE is the first ILL. */
    private static void judged(String line, boolean fine) {
        Calls c = new Calls();
        Calls.due("load of " + line, c.load(0, "A:\n" + line + "\nexit 3"), fine ? -1 : 1);
        Calls.due("is there: " + line, c.x.run(0, 0, 1) != -1, fine);
        Calls.due("before another: " + line, c.load(0, "A:\n" + line + "\nx"), fine ? 2 : 1);
    }

    private static void wordsAreSeparatedByBlanks() {
        Calls.sentence(TERMS, "WORDS are separated by blanks.");
        for (String form : FORMS) {
            String line = filled(form);
            judged(line, true);
            judged(" " + line, true);
            judged(line + " ", true);
            judged("   " + line.replace(" ", "    ") + "   ", true);
            for (int i = 0; i < line.length(); i++) {
                if (line.charAt(i) == ' ') {
                    judged(line.substring(0, i) + line.substring(i + 1), false);
                }
            }
        }
        judged("b ack", false);
        judged("exit 1 2", false);
        judged("exit - 1", false);
        judged("let,b,1", false);
    }

    private static void aLineIsNothing() {
        Calls.sentence(TERMS, "A LINE is nothing");
        judged("", true);
        judged(" ", true);
        judged(" ".repeat(90), true);
        judged(".", false);
        judged(" . ", false);
        new Calls().with(0, "\n \n\n").ends(0, 1, 0, 3);
    }

    private static void aLabelIsALetterAndAColon() {
        Calls.sentence(TERMS, "a LABEL (one letter A .. Z and : at once)");
        for (char c = 33; c <= 126; c++) {
            boolean fine = c >= 'A' && c <= 'Z';
            Calls.due("load of " + c + ":", new Calls().load(0, "\n" + c + ":"), fine ? -1 : 1);
            Calls.due("load of A" + c, new Calls().load(0, "\nA" + c), c == ':' ? -1 : 1);
        }
        for (String no : new String[] {"B", ":", "B :", "B::", ":B", "BC:", "B:C", "B: C:", "B: back", "back B:", "B:back", "1B:"}) {
            judged(no, false);
        }
        judged("  B:  ", true);
        Calls c = new Calls().with(0, "go Z\nexit 1\nA:\nexit 2\n  Z:\nexit 3");
        c.ends(0, 9, 3, 5);
    }

    private static void aStatementHasItsWords() {
        Calls.sentence(TERMS, "or a STATEMENT, in words");
        for (String form : FORMS) {
            String line = filled(form);
            judged(line, true);
            judged(line + " 1", false);
            judged(line + " A", false);
            judged(line + " " + line, false);
            if (!line.equals("back")) {
                judged(line.substring(0, line.lastIndexOf(' ')), false);
                judged(line.substring(line.indexOf(' ') + 1), false);
            }
        }
        // let is the one that has two forms, of two and of four words behind it
        judged("let b 1 +", false);
        judged("let b 1 + 1 + 1", false);
        judged("let b 1 + 1 +", false);
    }

    private static void theFirstWordOfAStatement() {
        Calls.sentence(TERMS, "or a STATEMENT");
        for (String form : FORMS) {
            String line = filled(form);
            int end = line.indexOf(' ') < 0 ? line.length() : line.indexOf(' ');
            String rest = line.substring(end);
            judged(line.substring(0, end - 1) + rest, false);
            judged(line.substring(1), false);
            judged(line.substring(0, end) + "s" + rest, false);
            judged("s" + line, false);
            judged(line.substring(0, end).toUpperCase() + rest, false);
            judged(line.substring(0, 1).toUpperCase() + line.substring(1), false);
        }
        for (String no : new String[] {"set b 1", "halt", "goto A", "jump A", "ret", "nop", "in b"}) {
            judged(no, false);
        }
    }

    private static void registersAreAToH() {
        Calls.sentence(TERMS, "R is one of the registers a .. h");
        for (String form : FORMS) {
            if (hasLetter(form, "R")) {
                for (char c = 33; c <= 126; c++) {
                    judged(filled(form, "R", "" + c), c >= 'a' && c <= 'h');
                }
                judged(filled(form, "R", "aa"), false);
                judged(filled(form, "R", "-a"), false);
                judged(filled(form, "R", "a1"), false);
            }
        }
        Calls c = new Calls().with(0, "let h 7\nlet a 8");
        c.ends(0, 9, 0, 2);
        c.registerIs(7, 7);
        c.registerIs(0, 8);
    }

    private static void operandsAreRegistersOrNumbers() {
        Calls.sentence(TERMS, "X, Y are one of these or a NUMBER");
        for (String form : FORMS) {
            for (String letter : new String[] {"X", "Y"}) {
                if (hasLetter(form, letter)) {
                    for (char c = 33; c <= 126; c++) {
                        judged(filled(form, letter, "" + c), c >= 'a' && c <= 'h' || c >= '0' && c <= '9');
                    }
                    for (String no : new String[] {"aa", "-a", "a1", "1a", "A:", "0x1", "1.5"}) {
                        judged(filled(form, letter, no), false);
                    }
                }
            }
        }
    }

    private static void numbersHaveOneToSixDigits() {
        Calls.sentence(TERMS, "a NUMBER (perhaps -, 1 to 6 digits)");
        for (String form : FORMS) {
            for (String letter : new String[] {"X", "Y"}) {
                if (hasLetter(form, letter)) {
                    for (String yes : new String[] {"0", "9", "-0", "-9", "999999", "-999999", "000000", "-000000", "000001"}) {
                        judged(filled(form, letter, yes), true);
                    }
                    for (String no : new String[] {"-", "--1", "1-", "-1-", "+1", "1000000", "-1000000", "0000000", "-0000000",
                        "0000001", "1/", "/1", "1:", ":1", "12345a", "-12345a", "1 2"}) {
                        judged(filled(form, letter, no), false);
                    }
                }
            }
        }
        Calls.due("six digits", Calls.valueOf("let a 999999", 0), 999999);
        Calls.due("six digits below", Calls.valueOf("let a -999999", 0), -999999);
        Calls.due("zeros before", Calls.valueOf("let a 000001", 0), 1);
        Calls.due("zeros before, below", Calls.valueOf("let a -000010", 0), -10);
        Calls.due("nothing below", Calls.valueOf("let a -0", 5), 0);
        Calls.due("one digit", Calls.valueOf("let a 9", 0), 9);
    }

    private static void aLabelsLetter() {
        Calls.sentence(TERMS, "L a LABEL's letter");
        for (String form : FORMS) {
            if (hasLetter(form, "L")) {
                for (char c = 33; c <= 126; c++) {
                    boolean fine = c >= 'A' && c <= 'Z';
                    String text = ALL_LABELS + filled(form, "L", "" + c);
                    Calls.due(form + " with " + c, new Calls().load(0, text), fine ? -1 : 26);
                }
                judged(filled(form, "L", "A:"), false);
                judged(filled(form, "L", "AA"), false);
                judged(filled(form, "L", "a"), false);
            }
        }
    }

    private static void operators() {
        Calls.sentence(TERMS, "O one of + - * / % & | ^ < =");
        for (char c = 33; c <= 126; c++) {
            judged("let b 1 " + c + " 1", "+-*/%&|^<=".indexOf(c) >= 0);
        }
        for (String no : new String[] {"++", "+-", "<=", "==", "<<", "&&", "add"}) {
            judged("let b 1 " + no + " 1", false);
        }
        judged("let b -1 - -1", true);
        judged("let b -1 -1", false);
    }

    private static void comparisons() {
        Calls.sentence(TERMS, "C one of < = >");
        for (char c = 33; c <= 126; c++) {
            judged("if 1 " + c + " 1 go A", "<=>".indexOf(c) >= 0);
        }
        for (String no : new String[] {"<=", ">=", "==", "<>", "!="}) {
            judged("if 1 " + no + " 1 go A", false);
        }
    }

    private static void theWordGo() {
        Calls.sentence(TERMS, "if X C Y go L");
        judged("if 1 < 2 go A", true);
        for (String no : new String[] {"g", "o", "goo", "Go", "GO", "og", "call", "A", "1"}) {
            judged("if 1 < 2 " + no + " A", false);
        }
        judged("if 1 < 2 A", false);
        judged("if 1 < 2", false);
    }

    private static void theFirstLineThatIsNotSo() {
        Calls.sentence(TERMS, "ILL: the first LINE that isn't so");
        Calls.due("one", new Calls().load(0, "back\nx"), 1);
        Calls.due("of two", new Calls().load(0, "back\nx\nback\ny"), 1);
        Calls.due("before a label twice", new Calls().load(0, "A:\nx\nA:"), 1);
        Calls.due("behind a label twice", new Calls().load(0, "A:\nA:\nx"), 1);
        Calls.due("the last character", new Calls().load(0, "\n".repeat(399) + "x"), 399);
        Calls.due("the first character", new Calls().load(0, "x" + "\n".repeat(399)), 0);
        Calls.due("none", new Calls().load(0, "back\n\nA:\n \nback"), -1);
    }

    private static void aLabelThatIsThereAlready() {
        Calls.sentence(TERMS, "or is a LABEL that is there already");
        Calls.due("all of them once", new Calls().load(0, ALL_LABELS), -1);
        for (char c = 'A'; c <= 'Z'; c++) {
            Calls.due(c + " twice", new Calls().load(0, ALL_LABELS + c + ":"), 26);
        }
        Calls.due("one behind the other", new Calls().load(0, "A:\nA:"), 1);
        Calls.due("three times", new Calls().load(0, "A:\nback\nA:\nA:"), 2);
        Calls.due("two twice", new Calls().load(0, "A:\nB:\nB:\nA:"), 2);
        Calls.due("named often", new Calls().load(0, "A:\ngo A\ngo A\ncall A"), -1);
        Calls c = new Calls().with(0, "A:").with(1, "A:");
        Calls.due("that of another text", c.load(0, "A:"), -1);
        Calls.due("that of an ill text", c.load(0, "B:\nx"), 1);
        Calls.due("isn't there any more", c.load(0, "B:"), -1);
    }

    private static void theFirstThatNamesNoLabel() {
        Calls.sentence(TERMS, "if there is none, the first that names a LABEL that isn't there.");
        for (String names : new String[] {"go B", "call B", "if 1 < 2 go B"}) {
            Calls.due("not there", new Calls().load(0, "A:\n" + names), 1);
            Calls.due("behind it", new Calls().load(0, "A:\n" + names + "\nB:"), -1);
            Calls.due("before it", new Calls().load(0, "B:\n" + names), -1);
            Calls.due("of two", new Calls().load(0, names + "\nA:\ngo C"), 0);
            Calls.due("the second alone", new Calls().load(0, names + "\nB:\ngo C"), 2);
            Calls.due("a LINE that isn't so, behind it", new Calls().load(0, names + "\nback\nx"), 2);
            Calls.due("a LABEL twice, behind it", new Calls().load(0, names + "\nA:\nA:"), 2);
        }
        Calls c = new Calls().with(0, "A:").with(1, "A:");
        Calls.due("that of another text", c.load(0, "go A"), 0);
        Calls.due("that of an ill text", c.load(0, "A:\nx"), 1);
        Calls.due("isn't there any more", c.load(0, "go A"), 0);
        for (char letter = 'A'; letter <= 'Z'; letter++) {
            Calls.due("all but " + letter, new Calls().load(0, ALL_LABELS.replace(letter + ":", "") + "go " + letter), 26);
        }
    }
}
