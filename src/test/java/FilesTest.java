/** Promises 4, 5, 11 and 12: file, clear, size, byteOf. */
final class FilesTest {
    private static final int[] NO_FILES = {-1, 10, Integer.MIN_VALUE, Integer.MAX_VALUE};

    public static void main(String[] args) {
        bytesComeBehind();
        wrongOnesAreRefused();
        fortyIsTheMost();
        clearMakesOrRemoves();
        wrongIndices();
        Calls.finish();
    }

    private static void bytesComeBehind() {
        Calls c = new Calls();
        Calls.due("file", c.x.file(3, 0xfffefdfcfbfaf9f8L, 8), true);
        c.fileIs(3, 255, 254, 253, 252, 251, 250, 249, 248);
        Calls.due("file", c.x.file(3, 0x0102030405060708L, 3), true);
        c.fileIs(3, 255, 254, 253, 252, 251, 250, 249, 248, 6, 7, 8);
        for (int n = 1; n <= 8; n++) {
            Calls d = new Calls();
            Calls.due("file", d.x.file(9, 0x8001020304050680L, n), true);
            Calls.due("size", d.x.size(9), n);
            Calls.due("last", d.x.byteOf(9, n - 1), 128);
            Calls.due("first", d.x.byteOf(9, 0), n == 8 || n == 1 ? 128 : 8 - n);
        }
        Calls.due("zeros count", c.x.file(0, 0, 2), true);
        c.fileIs(0, 0, 0);
        Calls.due("others stay", c.x.size(1), -1);
    }

    private static void wrongOnesAreRefused() {
        Calls c = new Calls();
        for (int file : NO_FILES) {
            Calls.due("file " + file, c.x.file(file, 1, 1), false);
            Calls.due("clear " + file, c.x.clear(file, true), false);
            Calls.due("clear " + file, c.x.clear(file, false), false);
            Calls.due("size " + file, c.x.size(file), -1);
            Calls.due("byteOf " + file, c.x.byteOf(file, 0), -1);
        }
        for (int n : new int[] {0, 9, -1, Integer.MIN_VALUE, Integer.MAX_VALUE}) {
            Calls.due("n " + n, c.x.file(1, 1, n), false);
        }
        for (int file = 0; file < 10; file++) {
            Calls.due("nothing came", c.x.size(file), -1);
        }
    }

    private static void fortyIsTheMost() {
        Calls c = new Calls();
        for (int i = 0; i < 4; i++) {
            Calls.due("file", c.x.file(5, 7, 8), true);
        }
        Calls.due("to 39", c.x.file(5, 7, 7), true);
        Calls.due("beyond by one", c.x.file(5, 0x0101, 2), false);
        Calls.due("size", c.x.size(5), 39);
        Calls.due("the last", c.x.file(5, 9, 1), true);
        Calls.due("beyond", c.x.file(5, 9, 1), false);
        Calls.due("size", c.x.size(5), 40);
        Calls.due("byte 39", c.x.byteOf(5, 39), 9);
        Calls.due("byte 40", c.x.byteOf(5, 40), -1);
    }

    private static void clearMakesOrRemoves() {
        Calls c = new Calls();
        for (int file = 0; file < 10; file++) {
            Calls.due("clear on", c.x.clear(file, true), true);
            c.fileIs(file);
            Calls.due("file", c.x.file(file, 258, 2), true);
            c.fileIs(file, 1, 2);
            Calls.due("clear on", c.x.clear(file, true), true);
            c.fileIs(file);
            Calls.due("file", c.x.file(file, 3, 1), true);
            Calls.due("clear off", c.x.clear(file, false), true);
            Calls.due("size", c.x.size(file), -1);
            Calls.due("byteOf", c.x.byteOf(file, 0), -1);
            Calls.due("clear off again", c.x.clear(file, false), true);
            Calls.due("size", c.x.size(file), -1);
            Calls.due("file", c.x.file(file, 4, 1), true);
            c.fileIs(file, 4);
        }
    }

    private static void wrongIndices() {
        Calls c = new Calls().withFile(2, 5, 6);
        for (int i : new int[] {-1, 2, 40, Integer.MIN_VALUE, Integer.MAX_VALUE}) {
            Calls.due("byteOf " + i, c.x.byteOf(2, i), -1);
        }
        c.fileIs(2, 5, 6);
    }
}
