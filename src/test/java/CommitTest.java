/** Promises 11, 12, 18: commit, back, octet, and how pages look. */
final class CommitTest {
    public static void main(String[] args) {
        nothingNew();
        pagesOfFormats(3, 1);
        pagesOfFormats(16, 2);
        pagesOfFormats(48, 3);
        pagesOfFormats(70, 4);
        pageWithAll();
        leastFreePages();
        heads();
        manyKeys();
        fullCommit();
        justNotFull();
        goingBack();
        wrongOctets();
        Checks.end();
    }

    private static void nothingNew() {
        RadixPages x = new RadixPages();
        Checks.due("commit of nothing", x.commit(), 0);
        Checks.due("sequence", x.count(8), 0);
        Checks.put(x, "a", 1);
        Checks.due("commit", x.commit(), 2);
        Checks.due("commit again", x.commit(), 0);
        Checks.put(x, "a", 1);
        Checks.due("commit of the same", x.commit(), 0);
        Checks.due("sequence then", x.count(8), 1);
        Checks.remove(x, "a");
        Checks.due("commit of the last key's going", x.commit(), 2);
        Checks.due("the root's page", x.count(9), 3);
        Checks.due("free pages", x.count(7), 253);
        Checks.due("sequence at last", x.count(8), 2);
    }

    /** A root with children by bytes 5, 8, 11, .., its own prefix "pq". */
    private static void pagesOfFormats(int children, int format) {
        int[] row = new int[512];
        row[0] = format;
        row[10] = 2;
        row[11] = 'p';
        row[12] = 'q';
        row[23] = children;
        for (int i = 0; i < children; i++) {
            int b = 5 + 3 * i;
            if (format == 1 || format == 2) {
                row[24 + i] = b;
                row[24 + (format == 1 ? 4 : 16) + i] = 2 + i;
            } else if (format == 3) {
                row[24 + b] = i + 1;
                row[280 + i] = 2 + i;
            } else {
                row[24 + b] = 2 + i;
            }
        }
        Checks.seal(row);
        for (int half = 0; half < 2; half++) {
            RadixPages x = new RadixPages();
            for (int i = 0; i < children; i++) {
                Checks.put(x, "pq" + (char) (5 + 3 * i) + "z", i);
            }
            Checks.due("pages", x.commit(), children + 2);
            Checks.dueHalf("format " + format, x, 2 + children, half, row);
        }
    }

    private static void pageWithAll() {
        int[] row = new int[512];
        row[0] = 1;
        row[1] = 1;
        int[] value = {0x81, 2, 3, 4, 5, 6, 7, 8};
        System.arraycopy(value, 0, row, 2, 8);
        row[10] = 12;
        for (int i = 0; i < 12; i++) {
            row[11 + i] = 'a' + i;
        }
        Checks.seal(row);
        for (int half = 0; half < 2; half++) {
            RadixPages x = new RadixPages();
            Checks.put(x, "abcdefghijkl", 0x8102030405060708L);
            x.commit();
            Checks.dueHalf("a node with a value", x, 2, half, row);
        }
        RadixPages y = new RadixPages();
        Checks.put(y, "abcdefghijkl", 5);
        y.commit();
        y.remove();
        y.commit();
        int[] bare = new int[512];
        bare[0] = 1;
        Checks.seal(bare);
        Checks.due("the last byte of its sum", bare[511], 79);
        for (int i = 0; i < 30; i++) {
            Checks.due("bare root, " + i, y.octet(3, i), bare[i]);
            Checks.due("bare root's end, " + i, y.octet(3, 511 - i), bare[511 - i]);
        }
    }

    private static void leastFreePages() {
        RadixPages x = new RadixPages();
        Checks.put(x, "aa", 1);
        Checks.put(x, "ab", 2);
        Checks.due("first", x.commit(), 4);
        Checks.put(x, "ac", 3);
        Checks.due("second", x.commit(), 3);
        // 2 and 3 stay, 4 was the root's
        Checks.due("the new child's page", x.node(3, 4), 5);
        Checks.due("the root's page", x.count(9), 6);
        Checks.put(x, "aa", 9);
        Checks.due("third", x.commit(), 3);
        Checks.due("the least free page is used again", x.node(1, 4), 4);
        Checks.due("then the next one that is free", x.count(9), 7);
        Checks.due("a page that no node has keeps its bytes", x.octet(2, 9), 1);
        Checks.due("free pages", x.count(7), 250);
        Checks.put(x, "aba", 9);
        Checks.due("fourth", x.commit(), 4);
        Checks.due("deepest first", x.node(3, 4), 2);
        Checks.due("its parent", x.node(2, 4), 6);
        Checks.due("the root", x.count(9), 8);
    }

    private static void heads() {
        RadixPages x = new RadixPages();
        for (int sequence = 1; sequence <= 5; sequence++) {
            Checks.put(x, Checks.text(sequence), sequence);
            x.commit();
            int[] head = Model.encodeHead(sequence, x.count(9), sequence);
            for (int i = 0; i < 14; i++) {
                Checks.due("head " + sequence + ", " + i, x.octet(sequence % 2, i), head[i]);
            }
            for (int i = 500; i < 512; i++) {
                Checks.due("head " + sequence + ", " + i, x.octet(sequence % 2, i), head[i]);
            }
            Checks.due("the other head's sequence", x.octet(1 - sequence % 2, 8), sequence - 1);
        }
    }

    private static void manyKeys() {
        RadixPages x = new RadixPages();
        Checks.putBits(x, 100);
        Checks.due("pages", x.commit(), 200);
        Checks.due("keys' high byte", x.octet(1, 10), 0);
        Checks.due("keys' low byte", x.octet(1, 11), 100);
        Checks.due("the root's page", x.octet(1, 9), 200);
        Checks.due("free", x.count(7), 55);
    }

    private static void fullCommit() {
        RadixPages x = new RadixPages();
        Checks.putBits(x, 100);
        x.commit();
        int changed = 0;
        while (x.count(6) <= 55) {
            Checks.put(x, Checks.bits(changed), -1);
            changed++;
        }
        int fresh = x.count(6);
        x.power(0, 0);
        Checks.due("commit", x.commit(), Checks.FULL);
        Checks.due("commit again", x.commit(), Checks.FULL);
        Checks.due("the batch stays", x.count(6), fresh);
        Checks.due("its values, too", Checks.get(x, Checks.bits(0)), -1);
        Checks.due("the sequence stays", x.count(8), 1);
        Checks.due("nothing is written", x.octet(201, 0), 0);
        Checks.due("back", x.back(), fresh);
        Checks.due("the values are there again", x.get(), 0);
        x.power(-1, 0);
        Checks.put(x, Checks.bits(0), -1);
        int way = x.count(6);
        Checks.due("a smaller batch", x.commit(), way + 1);
        Checks.due("free", x.count(7), 55);
    }

    private static void justNotFull() {
        RadixPages x = new RadixPages();
        Checks.putBits(x, 100);
        x.commit();
        for (int i = 0; i < 26; i++) {
            Checks.put(x, Checks.bits(i), -1);
        }
        Checks.due("as many new nodes as free pages", x.count(6), x.count(7));
        Checks.due("commit", x.commit(), 56);
        Checks.due("the root is on the last page", x.count(9), 255);
        Checks.due("free pages then", x.count(7), 55);
        Checks.put(x, Checks.bits(0), -2);
        x.commit();
        Checks.due("what was given up is used again", x.node(7, 4), 2);
    }

    private static void goingBack() {
        RadixPages x = new RadixPages();
        Checks.put(x, "ab", 1);
        Checks.put(x, "ac", 2);
        Checks.due("back to nothing", x.back(), 3);
        Checks.due("keys", x.count(0), 0);
        Checks.due("prefix", x.node(0, 2), 0);
        Checks.due("commit of nothing", x.commit(), 0);
        Checks.put(x, "ab", 1);
        Checks.put(x, "ac", 2);
        x.commit();
        Checks.remove(x, "ab");
        Checks.put(x, "q", 3);
        Checks.put(x, "ac", 7);
        int fresh = x.count(6);
        // what is poked does not count before start()
        x.poke(2, 9, 255);
        x.poke(4, 0, 255);
        Checks.due("back", x.back(), fresh);
        Checks.due("nothing is new", x.count(6), 0);
        Checks.due("back again", x.back(), 0);
        Checks.due("ab", Checks.get(x, "ab"), 1);
        Checks.due("ac", Checks.get(x, "ac"), 2);
        Checks.due("q", Checks.get(x, "q"), Checks.NO);
        Checks.due("the root's page", x.count(9), 4);
        Checks.due("page of ab", x.node(1, 4), 2);
        Checks.due("the tape stays", x.tapeAt(0), 'q');
        x.halt();
        Checks.due("back when down", x.back(), Checks.DOWN);
        Checks.due("commit when down", x.commit(), Checks.DOWN);
    }

    private static void wrongOctets() {
        RadixPages x = new RadixPages();
        int[][] wrong = {{-1, 0}, {256, 0}, {0, -1}, {0, 512}, {255, 512}, {Integer.MIN_VALUE, 0},
            {Integer.MAX_VALUE, 0}, {0, Integer.MIN_VALUE}, {0, Integer.MAX_VALUE}, {1, -512}, {-1, 512}};
        for (int[] at : wrong) {
            Checks.throwsIt("octet", IndexOutOfBoundsException.class, () -> x.octet(at[0], at[1]));
            Checks.throwsIt("poke", IndexOutOfBoundsException.class, () -> x.poke(at[0], at[1], 1));
        }
        Checks.due("poke of the last byte", x.poke(255, 511, 0x1FF), 255);
        Checks.due("poke of all bits", x.poke(255, 511, -1), 0);
        Checks.due("poke of no bit", x.poke(255, 511, 0x100), 0);
        x.poke(255, 511, 0x80);
        Checks.due("octet of the last byte", x.octet(255, 511), 0x80);
        x.halt();
        Checks.due("octet when down", x.octet(255, 511), 0x80);
        Checks.due("poke when down", x.poke(255, 511, 1), 0x81);
        Checks.throwsIt("octet when down", IndexOutOfBoundsException.class, () -> x.octet(256, 0));
        Checks.throwsIt("poke when down", IndexOutOfBoundsException.class, () -> x.poke(0, 512, 1));
    }
}
