/** Promises 2, 3, 4: type, cut, tapeAt. */
final class TapeTest {
    public static void main(String[] args) {
        typing();
        cutting();
        limits();
        whenDown();
        Checks.end();
    }

    private static void typing() {
        RadixPages x = new RadixPages();
        Checks.due("tapeAt(0) of no byte", x.tapeAt(0), Checks.NONE);
        Checks.due("type of 1", x.type(0x1234L, 1), 1);
        Checks.due("type of 8", x.type(0xFF80000102030405L, 8), 9);
        Checks.due("type of 2", x.type(-1L, 2), 11);
        int[] want = {0x34, 0xFF, 0x80, 0, 1, 2, 3, 4, 5, 255, 255, Checks.NONE};
        for (int i = 0; i < want.length; i++) {
            Checks.due("tapeAt(" + i + ")", x.tapeAt(i), want[i]);
        }
        Checks.due("tapeAt(-1)", x.tapeAt(-1), Checks.NONE);
        Checks.due("tapeAt(least)", x.tapeAt(Integer.MIN_VALUE), Checks.NONE);
        Checks.due("tapeAt(most)", x.tapeAt(Integer.MAX_VALUE), Checks.NONE);
    }

    private static void cutting() {
        RadixPages x = new RadixPages();
        Checks.due("cut(0) of none", x.cut(0), 0);
        x.type(0x010203L, 3);
        Checks.throwsIt("cut(4)", IllegalArgumentException.class, () -> x.cut(4));
        Checks.throwsIt("cut(-1)", IllegalArgumentException.class, () -> x.cut(-1));
        Checks.throwsIt("cut(least)", IllegalArgumentException.class, () -> x.cut(Integer.MIN_VALUE));
        Checks.throwsIt("cut(most)", IllegalArgumentException.class, () -> x.cut(Integer.MAX_VALUE));
        Checks.due("cut(3)", x.cut(3), 3);
        Checks.due("cut(2)", x.cut(2), 3);
        Checks.due("tapeAt(1)", x.tapeAt(1), 2);
        Checks.due("tapeAt(2) behind a cut", x.tapeAt(2), Checks.NONE);
        Checks.due("type behind a cut", x.type(9L, 1), 3);
        Checks.due("tapeAt(2) typed again", x.tapeAt(2), 9);
        Checks.due("cut(0)", x.cut(0), 3);
        Checks.due("cut(0) again", x.cut(0), 0);
    }

    private static void limits() {
        RadixPages x = new RadixPages();
        int[] wrong = {0, -1, 9, Integer.MIN_VALUE, Integer.MAX_VALUE};
        for (int n : wrong) {
            Checks.throwsIt("type(1, " + n + ")", IllegalArgumentException.class, () -> x.type(1L, n));
        }
        for (int i = 1; i <= 7; i++) {
            Checks.due("type of 8, " + i, x.type(i, 8), 8L * i);
        }
        Checks.due("type of 7", x.type(1L, 7), 63);
        Checks.throwsIt("type to 65", IllegalStateException.class, () -> x.type(1L, 2));
        Checks.throwsIt("type to 71", IllegalStateException.class, () -> x.type(1L, 8));
        Checks.due("the byte behind what was refused", x.tapeAt(63), Checks.NONE);
        Checks.due("type to 64", x.type(77L, 1), 64);
        Checks.due("tapeAt(63)", x.tapeAt(63), 77);
        Checks.throwsIt("type of 1 to 65", IllegalStateException.class, () -> x.type(1L, 1));
        Checks.throwsIt("type of 0 when full", IllegalArgumentException.class, () -> x.type(1L, 0));
        Checks.throwsIt("type of 9 when full", IllegalArgumentException.class, () -> x.type(1L, 9));
        Checks.due("cut of a full one", x.cut(64), 64);
    }

    private static void whenDown() {
        RadixPages x = new RadixPages();
        x.type(5L, 1);
        x.halt();
        Checks.due("type when down", x.type(6L, 1), 2);
        Checks.due("tapeAt when down", x.tapeAt(1), 6);
        Checks.due("cut when down", x.cut(1), 2);
        Checks.throwsIt("wrong cut when down", IllegalArgumentException.class, () -> x.cut(2));
        Checks.throwsIt("wrong type when down", IllegalArgumentException.class, () -> x.type(6L, 0));
        x.start();
        Checks.due("the tape stays", x.tapeAt(0), 5);
    }
}
