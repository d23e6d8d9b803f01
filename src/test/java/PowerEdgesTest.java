/** The sentences of POWER and START that name an edge, each with a test of its own. */
final class PowerEdgesTest {
    public static void main(String[] args) {
        for (int tear : new int[] {0, 1, 2, 9, 23, 255, 256, 503, 504, 510, 511}) {
            firstBytesOfANode(tear);
            firstBytesOfAHead(tear);
        }
        writesRoundIt();
        downTillStart();
        powerThatStays();
        firstCommitOfAll();
        greaterSequenceFirst();
        theOtherHeads();
        noneOfTwo();
        nothingIsNew();
        rootOnNoPage();
        sequenceGoesOn();
        powerStaysBehindStart();
        Checks.end();
    }

    /** One key committed with two values: page 2 has the first one still, and is the least free one. */
    private static RadixPages used() {
        RadixPages x = new RadixPages();
        Checks.put(x, "abcdefghijkl", 0x0102030405060708L);
        x.commit();
        Checks.put(x, "abcdefghijkl", -1);
        x.commit();
        return x;
    }

    private static int[] leaf(String prefix, long value) {
        Model.N n = new Model.N();
        n.prefix = prefix;
        n.value = value;
        return Model.encode(n);
    }

    private static void dueTorn(String what, RadixPages x, int page, int tear, int[] old, int[] fresh) {
        Checks.due(what + ": byte 0", x.octet(page, 0), 255);
        for (int i = 1; i < Checks.PAGE_BYTES; i += i < 26 || i > 498 ? 1 : 3) {
            Checks.due(what + ": byte " + i, x.octet(page, i), i < tear ? fresh[i] : old[i]);
        }
    }

    private static void firstBytesOfANode(int tear) {
        Checks.by("of it the first so many bytes are written, and its byte 0 is 255 in any case: a node's page");
        RadixPages x = used();
        x.power(0, tear);
        Checks.put(x, "abcdefghijkl", 0x1112131415161718L);
        Checks.due("commit", x.commit(), Checks.LOST);
        int[] old = leaf("abcdefghijkl", 0x0102030405060708L);
        dueTorn("tear " + tear, x, 2, tear, old, leaf("abcdefghijkl", 0x1112131415161718L));
        Checks.due("start", x.start(), 2);
        Checks.due("get", x.get(), -1);
    }

    private static void firstBytesOfAHead(int tear) {
        Checks.by("of it the first so many bytes are written, and its byte 0 is 255 in any case: a head");
        RadixPages x = used();
        x.power(2, tear);
        Checks.put(x, "x", 1);
        Checks.due("a commit of three nodes", x.count(6), 3);
        Checks.due("commit", x.commit(), Checks.LOST);
        Checks.due("start", x.start(), 2);
        x.power(1, tear);
        Checks.put(x, "abcdefghijkl", 5);
        Checks.due("commit that loses its head", x.commit(), Checks.LOST);
        dueTorn("tear " + tear, x, 1, tear, Model.encodeHead(1, 2, 1), Model.encodeHead(3, 2, 1));
        Checks.due("start", x.start(), 2);
        Checks.due("get", x.get(), -1);
    }

    private static void writesRoundIt() {
        Checks.by("POWER may be set to go at a write (of a page): those before it are whole, those behind it are none");
        RadixPages x = new RadixPages();
        Checks.put(x, "a", 1);
        Checks.put(x, "b", 2);
        x.power(1, 20);
        Checks.due("commit", x.commit(), Checks.LOST);
        int[] first = leaf("", 1);
        for (int i = 0; i < 30; i++) {
            Checks.due("the write before, " + i, x.octet(2, i), first[i]);
            Checks.due("the write before, " + (511 - i), x.octet(2, 511 - i), first[511 - i]);
            Checks.due("a write behind, " + i, x.octet(4, i), 0);
            Checks.due("the head's write, " + i, x.octet(1, i), 0);
        }
        Checks.due("the write itself", x.octet(3, 0), 255);
        Checks.due("and its value", x.octet(3, 9), 2);
    }

    private static void downTillStart() {
        Checks.by("then all is DOWN till start()");
        RadixPages x = used();
        x.power(0, 0);
        Checks.put(x, "b", 1);
        Checks.due("commit", x.commit(), Checks.LOST);
        Checks.due("put", x.put(1), Checks.DOWN);
        Checks.due("remove", x.remove(), Checks.DOWN);
        Checks.due("get", x.get(), Checks.NO);
        Checks.due("with", x.with(), Checks.DOWN);
        Checks.due("before", x.before(), Checks.DOWN);
        Checks.due("nth", x.nth(0), Checks.DOWN);
        Checks.due("commit", x.commit(), Checks.DOWN);
        Checks.due("back", x.back(), Checks.DOWN);
        Checks.due("count", x.count(0), Checks.DOWN);
        Checks.due("node", x.node(0, 0), Checks.DOWN);
        Checks.due("power", x.power(-1, 0), Checks.DOWN);
        Checks.due("halt", x.halt(), Checks.DOWN);
        Checks.due("type", x.type(1, 1), 2);
        Checks.due("cut", x.cut(1), 2);
        Checks.due("tapeAt", x.tapeAt(0), 'b');
        Checks.due("octet", x.octet(0, 0), 1);
        Checks.due("poke", x.poke(0, 0, 0), 1);
        Checks.due("start", x.start(), 2);
        Checks.due("put", x.put(1), 1);
        Checks.due("get", x.get(), 1);
        Checks.due("count", x.count(0), 2);
        Checks.due("start when it is not down", x.start(), Checks.NONE);
        Checks.due("halt", x.halt(), 1);
    }

    private static void powerThatStays() {
        Checks.by("POWER may be set to go at a write: when it is not set, or set to stay, it stays");
        RadixPages x = new RadixPages();
        for (int i = 1; i <= 5; i++) {
            Checks.put(x, "a", i);
            Checks.due("commit", x.commit(), 2);
        }
        x.power(1, 7);
        x.power(-1, 7);
        for (int i = 6; i <= 9; i++) {
            Checks.put(x, "a", i);
            Checks.due("commit", x.commit(), 2);
        }
    }

    private static void firstCommitOfAll() {
        Checks.by("if there is none, a tree without keys: when power went in the first commit");
        for (int write = 0; write < 4; write++) {
            for (int tear : new int[] {0, 1, 511}) {
                RadixPages x = new RadixPages();
                Checks.put(x, "a", 1);
                Checks.put(x, "b", 2);
                x.power(write, tear);
                Checks.due("commit", x.commit(), Checks.LOST);
                Checks.due("start", x.start(), 0);
                Checks.dueCounts(x, 0, 1, 1, 0, 0, 0, 0, 254, 0, 0, 1);
                Checks.put(x, "c", 1);
                Checks.due("commit", x.commit(), 2);
                Checks.due("the root's page", x.count(9), 2);
                x.halt();
                Checks.due("start", x.start(), 1);
                Checks.due("get", x.get(), 1);
            }
        }
    }

    /** "a" with value 1 on page 20 and with value 2 on page 21. */
    private static Layout two(int sequenceOf20, int sequenceOf21) {
        return new Layout().node(20, 1, "a", 1L).node(21, 1, "a", 2L)
            .head(sequenceOf20 % 2, sequenceOf20, 20, 1).head(sequenceOf21 % 2, sequenceOf21, 21, 1);
    }

    private static void dueValue(RadixPages x, long want) {
        Checks.due("the value", Checks.get(x, "a"), want);
    }

    private static void greaterSequenceFirst() {
        Checks.by("of the heads those that are RIGHT, by their sequences the greater one first");
        dueValue(two(4, 5).due("the greater one on page 1", 5), 2);
        dueValue(two(6, 5).due("the greater one on page 0", 6), 1);
        dueValue(two(1, 1000000000).due("the greatest one on page 0", 1000000000), 2);
        dueValue(two(999999999, 2).due("the greatest one on page 1", 999999999), 1);
        dueValue(two(256, 255).due("greater by a higher byte", 256), 1);
        dueValue(two(255, 2).due("greater by the lowest byte", 255), 1);
        dueValue(two(4, 5).set(1, 0, 9).due("the greater one is not right", 4), 1);
        dueValue(two(4, 5).set(0, 0, 9).due("the less one is not right", 5), 2);
    }

    private static void theOtherHeads() {
        Checks.by("if all of it is RIGHT, that is the tree; else the other head's");
        dueValue(two(4, 5).set(21, 22, 1).due("the tree of page 1's head is not right", 4), 1);
        dueValue(two(6, 5).set(20, 22, 1).due("the tree of page 0's head is not right", 5), 2);
        dueValue(two(4, 5).set(20, 22, 1).due("the less one's tree is not right", 5), 2);
        dueValue(two(2, 1).set(20, 22, 1).due("the other head is the first one of all", 1), 2);
        RadixPages x = two(4, 5).node(21, 1, "", 2L, 7, 22, 8, 23).node(22, 1, "", 1L).set(1, 11, 3)
            .due("a tree of which the last node is not right", 4);
        dueValue(x, 1);
        Checks.dueCounts(x, 1, 1, 1, 0, 0, 0, 0, 253, 4, 20, 1);
        Checks.due("back", x.back(), 0);
        dueValue(x, 1);
    }

    private static void noneOfTwo() {
        Checks.by("if there is none, a tree without keys, of which nothing is new, of sequence 0");
        Layout[] none = {
            two(4, 5).set(20, 22, 1).set(21, 22, 1), two(6, 5).set(20, 22, 1).set(21, 22, 1),
            two(4, 5).set(0, 0, 9).set(1, 0, 9), two(4, 5).set(0, 0, 9).set(21, 22, 1), two(4, 5).set(1, 0, 9).set(20, 22, 1),
            two(4, 5).without(1).set(20, 22, 1), two(4, 5).without(0).set(21, 22, 1), two(4, 5).without(0).without(1)
        };
        for (Layout layout : none) {
            RadixPages x = layout.due("none", 0);
            Checks.dueCounts(x, 0, 1, 1, 0, 0, 0, 0, 254, 0, 0, 1);
            Checks.dueNode(x, 0, 1, 0, 0, 0, 0, 0);
            Checks.due("back", x.back(), 0);
            dueValue(x, Checks.NO);
        }
    }

    private static void nothingIsNew() {
        Checks.by("the tree that its root's page begins is read: nothing of it is new");
        RadixPages x = used();
        Checks.put(x, "b", 3);
        x.halt();
        Checks.due("start", x.start(), 2);
        Checks.dueCounts(x, 1, 1, 1, 0, 0, 0, 0, 253, 2, 3, 1);
        Checks.due("back", x.back(), 0);
        Checks.due("commit", x.commit(), 0);
        Checks.due("the batch is gone", x.get(), Checks.NO);
    }

    private static void rootOnNoPage() {
        Checks.by("(its root is on no page; a commit then writes it when it is new)");
        RadixPages x = two(4, 5).without(0).without(1).due("none", 0);
        Checks.due("the root's page", x.count(9), 0);
        Checks.due("the root's page", x.node(0, 4), 0);
        Checks.due("commit when nothing is new", x.commit(), 0);
        Checks.due("page 2", x.octet(2, 0), 0);
        Checks.put(x, "q", 1);
        x.remove();
        Checks.due("new nodes", x.count(6), 1);
        Checks.due("commit when it is new", x.commit(), 2);
        Checks.due("the root's page", x.count(9), 2);
        Checks.due("the sequence", x.count(8), 1);
        Checks.due("the head's page", x.octet(1, 9), 2);
        x.halt();
        Checks.due("start", x.start(), 1);
        Checks.dueCounts(x, 0, 1, 1, 0, 0, 0, 0, 253, 1, 2, 1);
    }

    private static void sequenceGoesOn() {
        Checks.by("START: that is the tree: what is committed then goes on from its sequence");
        RadixPages x = two(4, 5).set(21, 22, 1).due("the other head's", 4);
        Checks.put(x, "a", 3);
        Checks.due("commit", x.commit(), 2);
        Checks.due("the sequence", x.count(8), 5);
        Checks.due("the head that was not right", x.octet(1, 9), 2);
        x.halt();
        Checks.due("start", x.start(), 5);
        dueValue(x, 3);
        x.poke(1, 511, 1);
        x.halt();
        Checks.due("start by the head that was kept", x.start(), 4);
        dueValue(x, 1);
    }

    private static void powerStaysBehindStart() {
        Checks.by("Power stays then.");
        RadixPages x = used();
        x.power(0, 3);
        x.halt();
        x.start();
        Checks.put(x, "b", 3);
        Checks.due("commit behind halt and start", x.commit(), 4);
        x.power(1, 3);
        Checks.put(x, "b", 4);
        Checks.due("commit", x.commit(), Checks.LOST);
        x.start();
        for (int i = 5; i < 9; i++) {
            Checks.put(x, "b", i);
            Checks.due("commit behind a loss and start", x.commit(), 3);
        }
        x.power(2, 3);
        Checks.due("start when it is not down", x.start(), Checks.NONE);
        Checks.put(x, "b", 9);
        Checks.due("so power goes", x.commit(), Checks.LOST);
    }
}
