import java.util.Arrays;

/** The edges of FILES and of promises 4, 5, 11 and 12, each sentence with a test of its own. */
final class FileEdgesTest {
    private static final String FILE = "Promise 4: file";
    private static final String CLEAR = "Promise 5: clear";
    private static final String SIZE = "Promise 11: size";
    private static final String BYTE_OF = "Promise 12: byteOf";

    public static void main(String[] args) {
        filesAreZeroToNine();
        fortyBytesAtMost();
        bytesAreZeroTo255();
        theLowestBytesHighestFirst();
        aFileIsThereThen();
        noSuchNumberForFile();
        oneToEightBytes();
        notMoreThanForty();
        clearOn();
        clearOff();
        noSuchNumberForClear();
        sizes();
        noSize();
        bytes();
        noByte();
        Calls.finish();
    }

    /** File 4 with as many bytes as are wanted: 1, 2, 3 and so on. */
    private static Calls filled(int count) {
        Calls c = new Calls();
        for (int i = 1; i <= count; i++) {
            Calls.due("byte " + i, c.x.file(4, i, 1), true);
        }
        return c;
    }

    private static void filesAreZeroToNine() {
        Calls.sentence("Promises 4, 5, 11, 12, Terms", "FILES 0 .. 9 are there or not");
        for (int there = 0; there <= 9; there++) {
            Calls c = new Calls();
            Calls.due("file " + there, c.x.file(there, 7, 1), true);
            for (int file = -1; file <= 10; file++) {
                Calls.due("size " + file, c.x.size(file), file == there ? 1 : -1);
                Calls.due("byteOf " + file, c.x.byteOf(file, 0), file == there ? 7 : -1);
            }
        }
        Calls c = new Calls();
        String before = c.shown();
        for (int no : Calls.outside(0, 9)) {
            Calls.due("file " + no, c.x.file(no, 7, 1), false);
            Calls.due("clear " + no, c.x.clear(no, true), false);
            Calls.due("size " + no, c.x.size(no), -1);
        }
        Calls.due("all", c.shown(), before);
    }

    private static void fortyBytesAtMost() {
        Calls.sentence("Promise 4, Terms", "with at most 40 bytes");
        Calls c = filled(39);
        Calls.due("size", c.x.size(4), 39);
        Calls.due("the fortieth", c.x.file(4, 40, 1), true);
        for (int i = 0; i < 40; i++) {
            Calls.due("byte " + i, c.x.byteOf(4, i), i + 1);
        }
        Calls.due("one more", c.x.file(4, 41, 1), false);
        Calls.due("size", c.x.size(4), 40);
        Calls.due("byte 39", c.x.byteOf(4, 39), 40);
        Calls.due("byte 40", c.x.byteOf(4, 40), -1);
        Calls.due("another file", c.x.file(5, 41, 1), true);
    }

    private static void bytesAreZeroTo255() {
        Calls.sentence("Promises 4, 12, Terms", "40 bytes (0 .. 255)");
        Calls c = new Calls();
        for (int b : new int[] {0, 1, 127, 128, 255, 256, 257, -1, -128, -256}) {
            Calls.due("clear", c.x.clear(0, true), true);
            Calls.due("file of " + b, c.x.file(0, b, 1), true);
            c.fileIs(0, b & 255);
        }
    }

    private static void theLowestBytesHighestFirst() {
        Calls.sentence(FILE, "The lowest n bytes (1 .. 8) of a number, the highest of these first");
        int[] all = {0x81, 0, 0xff, 0x7f, 0, 0x80, 1, 0xfe};
        for (int n = 1; n <= 8; n++) {
            Calls c = new Calls();
            Calls.due("n " + n, c.x.file(4, 0x8100ff7f008001feL, n), true);
            c.fileIs(4, Arrays.copyOfRange(all, 8 - n, 8));
        }
        Calls c = new Calls();
        Calls.due("zeros are bytes, too", c.x.file(4, 0, 8), true);
        c.fileIs(4, 0, 0, 0, 0, 0, 0, 0, 0);
    }

    private static void aFileIsThereThen() {
        Calls.sentence(FILE, "come behind a FILE (it is there then)");
        Calls c = new Calls();
        Calls.due("not there", c.x.size(4), -1);
        Calls.due("file", c.x.file(4, 5, 1), true);
        c.fileIs(4, 5);
        Calls.due("clear", c.x.clear(4, true), true);
        Calls.due("behind nothing", c.x.file(4, 6, 1), true);
        c.fileIs(4, 6);
        Calls.due("behind one", c.x.file(4, 0x0708, 2), true);
        c.fileIs(4, 6, 7, 8);
        Calls.due("clear", c.x.clear(4, false), true);
        Calls.due("there again", c.x.file(4, 9, 1), true);
        c.fileIs(4, 9);
    }

    private static void noSuchNumberForFile() {
        Calls.sentence(FILE, "false, and none come, if there is no such number");
        Calls c = new Calls().withFile(0, 1).withFile(9, 2);
        String before = c.shown();
        for (int no : Calls.outside(0, 9)) {
            for (int n = 1; n <= 8; n++) {
                Calls.due("file " + no, c.x.file(no, 3, n), false);
            }
        }
        Calls.due("all", c.shown(), before);
        Calls.due("file 0", c.x.file(0, 3, 1), true);
        Calls.due("file 9", c.x.file(9, 4, 1), true);
        c.fileIs(0, 1, 3);
        c.fileIs(9, 2, 4);
    }

    private static void oneToEightBytes() {
        Calls.sentence(FILE, "n isn't so");
        Calls c = new Calls().withFile(0, 1).withFile(1);
        String before = c.shown();
        for (int n : Calls.outside(1, 8)) {
            for (int file = 0; file <= 2; file++) {
                Calls.due("n " + n, c.x.file(file, 3, n), false);
            }
        }
        Calls.due("all", c.shown(), before);
        Calls.due("n 1", c.x.file(2, 3, 1), true);
        c.fileIs(2, 3);
        Calls.due("n 8", c.x.file(1, 3, 8), true);
        c.fileIs(1, 0, 0, 0, 0, 0, 0, 0, 3);
    }

    private static void notMoreThanForty() {
        Calls.sentence(FILE, "or there would be more than 40");
        for (int n = 1; n <= 8; n++) {
            Calls c = filled(40 - n);
            Calls.due("up to 40", c.x.file(4, 0, n), true);
            Calls.due("size", c.x.size(4), 40);
            Calls.due("the last", c.x.byteOf(4, 39), 0);
            Calls d = filled(41 - n);
            String before = d.shown();
            Calls.due("up to 41", d.x.file(4, 0, n), false);
            Calls.due("all", d.shown(), before);
            if (n > 1) {
                Calls.due("one less", d.x.file(4, 99, n - 1), true);
                Calls.due("size", d.x.size(4), 40);
                Calls.due("the last", d.x.byteOf(4, 39), 99);
            }
        }
    }

    private static void clearOn() {
        Calls.sentence(CLEAR, "A FILE is there, empty (on)");
        for (int count : new int[] {0, 1, 40}) {
            Calls c = filled(count);
            Calls.due("clear", c.x.clear(4, true), true);
            c.fileIs(4);
            Calls.due("again", c.x.clear(4, true), true);
            c.fileIs(4);
            for (int i = 0; i < 5; i++) {
                Calls.due("room for 40", c.x.file(4, i, 8), true);
            }
            Calls.due("and no more", c.x.file(4, 0, 1), false);
        }
        Calls c = new Calls().withFile(3, 1).withFile(5, 2);
        Calls.due("clear", c.x.clear(4, true), true);
        c.fileIs(3, 1);
        c.fileIs(5, 2);
    }

    private static void clearOff() {
        Calls.sentence(CLEAR, "or isn't there");
        for (int count : new int[] {0, 1, 40}) {
            Calls c = filled(count);
            Calls.due("clear", c.x.clear(4, false), true);
            Calls.due("size", c.x.size(4), -1);
            Calls.due("byteOf", c.x.byteOf(4, 0), -1);
            Calls.due("again", c.x.clear(4, false), true);
            Calls.due("size", c.x.size(4), -1);
            Calls.due("clear on", c.x.clear(4, true), true);
            c.fileIs(4);
        }
        Calls c = new Calls().withFile(3, 1).withFile(4, 8).withFile(5, 2);
        Calls.due("clear", c.x.clear(4, false), true);
        c.fileIs(3, 1);
        c.fileIs(5, 2);
    }

    private static void noSuchNumberForClear() {
        Calls.sentence(CLEAR, "false if there is no such number");
        Calls c = new Calls().withFile(0, 1).withFile(9, 2);
        String before = c.shown();
        for (int no : Calls.outside(0, 9)) {
            Calls.due("clear " + no, c.x.clear(no, true), false);
            Calls.due("clear " + no, c.x.clear(no, false), false);
        }
        Calls.due("all", c.shown(), before);
        Calls.due("clear 0", c.x.clear(0, true), true);
        Calls.due("clear 9", c.x.clear(9, false), true);
        Calls.due("size 0", c.x.size(0), 0);
        Calls.due("size 9", c.x.size(9), -1);
    }

    private static void sizes() {
        Calls.sentence(SIZE, "How many bytes a FILE has");
        Calls c = new Calls().withFile(4);
        for (int count = 0; count <= 40; count++) {
            Calls.due("size", c.x.size(4), count);
            Calls.due("file", c.x.file(4, 0, 1), count < 40);
        }
        Calls.due("size", c.x.size(4), 40);
    }

    private static void noSize() {
        Calls.sentence(SIZE, "NONE if it isn't there");
        Calls c = filled(2).withFile(0).with(0, "drop 4");
        for (int no : Calls.outside(0, 9)) {
            Calls.due("size " + no, c.x.size(no), -1);
        }
        Calls.due("never there", c.x.size(5), -1);
        Calls.due("there, but empty", c.x.size(0), 0);
        Calls.due("there", c.x.size(4), 2);
        c.ends(0, 9, 0, 1);
        Calls.due("dropped", c.x.size(4), -1);
        Calls.due("cleared", c.x.clear(0, false), true);
        Calls.due("not there any more", c.x.size(0), -1);
    }

    private static void bytes() {
        Calls.sentence(BYTE_OF, "A byte of a FILE");
        for (int count : new int[] {1, 2, 39, 40}) {
            Calls c = filled(count);
            Calls.due("first", c.x.byteOf(4, 0), 1);
            Calls.due("last", c.x.byteOf(4, count - 1), count);
        }
        Calls c = new Calls().withFile(0, 255, 0);
        Calls.due("255 isn't NONE", c.x.byteOf(0, 0), 255);
        Calls.due("0 is a byte", c.x.byteOf(0, 1), 0);
    }

    private static void noByte() {
        Calls.sentence(BYTE_OF, "NONE if there is none");
        for (int count : new int[] {0, 1, 39, 40}) {
            Calls c = filled(count).withFile(9, 7);
            for (int no : Calls.outside(0, count - 1)) {
                Calls.due("byte " + no + " of " + count, c.x.byteOf(4, no), -1);
            }
            for (int no : Calls.outside(0, 9)) {
                Calls.due("byte of file " + no, c.x.byteOf(no, 0), -1);
            }
            // what was there before a clear isn't there behind it, nor behind fewer bytes
            Calls.due("clear", c.x.clear(4, true), true);
            Calls.due("emptied", c.x.byteOf(4, 0), -1);
            Calls.due("file", c.x.file(4, 50, 1), true);
            Calls.due("behind the only one", c.x.byteOf(4, 1), -1);
            Calls.due("clear", c.x.clear(4, false), true);
            Calls.due("not there", c.x.byteOf(4, 0), -1);
        }
    }
}
