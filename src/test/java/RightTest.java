import java.util.TreeMap;

/** Promises 16 and 19: which heads and trees start() takes for right, each rule by itself. */
final class RightTest {
    private static final long SEQUENCE = 5;

    /** The rows of a disk on which a tree is laid by hand; the head is on page 1. */
    private final TreeMap<Integer, int[]> rows = new TreeMap<>();

    public static void main(String[] args) {
        plainTrees();
        heads();
        twoHeads();
        nodeBytes();
        children();
        places();
        bytesOfFormat4();
        reasons();
        sharedPages();
        keyLengths();
        keyCounts();
        tooManyNodes();
        formatsThatAreLet();
        pokeBeforeStart();
        Checks.end();
    }

    private RightTest node(int page, int format, String prefix, Long value, int... bytesAndPages) {
        Model.N n = new Model.N();
        n.format = format;
        n.prefix = prefix;
        n.value = value;
        for (int i = 0; i < bytesAndPages.length; i += 2) {
            Model.N kid = new Model.N();
            kid.page = bytesAndPages[i + 1];
            n.kids.put(bytesAndPages[i], kid);
        }
        rows.put(page, Model.encode(n));
        return this;
    }

    private RightTest head(int page, long sequence, int rootPage, int keys) {
        rows.put(page, Model.encodeHead(sequence, rootPage, keys));
        return this;
    }

    private RightTest set(int page, int i, int b) {
        rows.get(page)[i] = b;
        Checks.seal(rows.get(page));
        return this;
    }

    private RightTest setUnsealed(int page, int i, int b) {
        rows.get(page)[i] = b;
        return this;
    }

    private RadixPages lay() {
        RadixPages x = new RadixPages();
        for (int page : rows.keySet()) {
            Checks.pokeAll(x, page, new int[512], rows.get(page));
        }
        x.halt();
        return x;
    }

    private RadixPages due(String what, long want) {
        RadixPages x = lay();
        Checks.due(what + ": start()", x.start(), want);
        Checks.due(what + ": the sequence", x.count(8), want);
        if (want == 0) {
            Checks.due(what + ": keys", x.count(0), 0);
            Checks.due(what + ": nodes", x.count(1), 1);
            Checks.due(what + ": free", x.count(7), 254);
            Checks.due(what + ": the root's page", x.count(9), 0);
            Checks.due(what + ": nothing is new", x.count(6), 0);
        }
        return x;
    }

    /** A root "r" with children by 0 and 9, three keys. */
    private static RightTest small() {
        return new RightTest().node(7, 1, "r", 1L, 0, 8, 9, 10).node(8, 1, "", -2L).node(10, 1, "xy", 0L)
            .head(1, SEQUENCE, 7, 3);
    }

    private static void plainTrees() {
        RadixPages x = small().due("small", SEQUENCE);
        Checks.due("keys", x.count(0), 3);
        Checks.due("nodes", x.count(1), 3);
        Checks.due("free", x.count(7), 251);
        Checks.due("the root's page", x.count(9), 7);
        Checks.due("page of a child", x.node(2, 4), 10);
        Checks.due("r", Checks.get(x, "r"), 1);
        Checks.due("r0", Checks.get(x, Checks.text('r', 0)), -2);
        Checks.due("r9xy", Checks.get(x, Checks.text('r', 9, 'x', 'y')), 0);
        Checks.due("put", x.put(7), 0);
        Checks.due("commit", x.commit(), 3);
        Checks.due("page of what was put", x.node(2, 4), 2);
        Checks.due("page of the root", x.count(9), 3);
        Checks.due("sequence", x.count(8), SEQUENCE + 1);
        RadixPages bare = new RightTest().node(255, 1, "", null).head(1, 1, 255, 0).due("a bare root", 1);
        Checks.due("its page", bare.count(9), 255);
        Checks.due("free", bare.count(7), 253);
    }

    private static void heads() {
        small().head(1, 1, 7, 3).due("least sequence", 1);
        small().head(1, 999999999, 7, 3).due("great sequence", 999999999);
        RightTest most = small();
        most.rows.remove(1);
        RadixPages x = most.head(0, 1000000000, 7, 3).due("greatest sequence", 1000000000);
        x.type('q', 1);
        x.put(1);
        x.commit();
        Checks.due("the sequence goes on", x.count(8), 1000000001);
        x.halt();
        Checks.due("but is not right then", x.start(), 1000000000);
        small().head(1, 1000000001, 7, 3).due("sequence too great", 0);
        small().head(1, -1, 7, 3).due("sequence below 0", 0);
        small().head(1, 0x100000001L, 7, 3).due("sequence of 33 bits", 0);
        small().head(1, 4, 7, 3).due("even on page 1", 0);
        RightTest odd = small();
        odd.rows.remove(1);
        odd.head(0, 5, 7, 3).due("odd on page 0", 0);
        odd.head(0, 0, 7, 3).due("sequence 0", 0);
        odd.head(0, 6, 7, 3).due("even on page 0", 6);
        small().set(1, 0, 0).due("byte 0 is 0", 0);
        small().set(1, 0, 2).due("byte 0 is 2", 0);
        small().set(1, 0, 255).due("byte 0 is 255", 0);
        small().set(1, 12, 1).due("byte 12", 0);
        small().set(1, 503, 1).due("byte 503", 0);
        small().set(1, 250, 128).due("byte 250", 0);
        small().setUnsealed(1, 504, 1).due("sum", 0);
        small().setUnsealed(1, 11, 2).due("sum of a change", 0);
        small().set(1, 9, 1).due("root on page 1", 0);
        small().set(1, 9, 0).due("root on page 0", 0);
        small().set(1, 9, 8).due("root on another page", 0);
        small().set(1, 9, 200).due("root on a page of 0s", 0);
    }

    private static void twoHeads() {
        RightTest both = small().node(20, 1, "old", 1L).head(0, 4, 20, 1);
        RadixPages x = both.due("the greater one", 5);
        Checks.due("its keys", x.count(0), 3);
        both.head(0, 6, 20, 1);
        x = both.due("the greater one on page 0", 6);
        Checks.due("its only key", x.count(0), 1);
        Checks.due("free", x.count(7), 253);
        both.set(20, 0, 9);
        x = both.due("the other one", 5);
        Checks.due("the other one's keys", x.count(0), 3);
        Checks.due("the other one's free pages", x.count(7), 251);
        Checks.put(x, "n", 1);
        Checks.due("commit over the head that is wrong", x.commit(), 4);
        Checks.due("the sequence", x.count(8), 6);
        both.set(8, 0, 9);
        both.due("none of two", 0);
        both.head(0, 2, 20, 1);
        both.due("none of two, the greater one on page 1", 0);
        small().head(0, 6, 7, 2).due("a head that does not count as many keys", 5);
        small().head(0, 6, 7, 3).due("two heads of one tree", 6);
        small().head(0, 6, 7, 3).set(1, 0, 3).due("only page 0's head", 6);
        small().head(0, 4, 7, 2).set(1, 0, 3).due("only page 0's head, with a wrong tree", 0);
    }

    private static void nodeBytes() {
        small().setUnsealed(8, 511, 1).due("a node's sum", 0);
        small().setUnsealed(10, 9, 1).due("a node's sum of a change", 0);
        small().set(8, 0, 0).due("format 0", 0);
        small().set(8, 0, 5).due("format 5", 0);
        small().set(8, 0, 255).due("format 255", 0);
        small().set(8, 0, 2).due("format 2 of a leaf", 5);
        small().set(8, 0, 3).due("format 3 of a leaf", 5);
        small().set(8, 0, 4).due("format 4 of a leaf", 5);
        small().set(8, 1, 2).due("byte 1 is 2", 0);
        small().set(7, 1, 0).due("a value where there is none", 0);
        small().set(7, 1, 0).set(7, 9, 0).set(1, 11, 2).due("no value but two children", 5);
        RightTest no = small();
        for (int i = 2; i < 10; i++) {
            no.set(8, i, i == 2 ? 128 : 0);
        }
        no.due("the value NO", 0);
        no.set(8, 9, 1).due("the value behind NO", 5);
        RightTest noWithout = small().set(1, 11, 2).set(7, 1, 0).set(7, 9, 0);
        noWithout.set(7, 2, 128).due("NO without a value", 0);
        small().set(10, 10, 13).due("a prefix of 13 bytes", 0);
        small().set(10, 10, 255).due("a prefix of 255 bytes", 0);
        small().set(10, 10, 1).due("a byte behind the prefix", 0);
        small().set(10, 10, 3).due("a prefix with a 0 at its end", 5);
        small().set(8, 22, 1).due("byte 22", 0);
        small().set(8, 24, 1).due("a byte of a child that is not there", 0);
        small().set(8, 28, 9).due("a page of a child that is not there", 0);
        small().set(8, 32, 1).due("byte 32", 0);
        small().set(8, 503, 1).due("byte 503", 0);
        small().set(8, 0, 2).set(8, 55, 1).due("byte 55 of format 2", 0);
        small().set(8, 0, 2).set(8, 56, 1).due("byte 56 of format 2", 0);
        small().set(8, 0, 3).set(8, 328, 1).due("byte 328 of format 3", 0);
        small().set(8, 0, 3).set(8, 327, 1).due("byte 327 of format 3", 0);
        small().set(8, 0, 4).set(8, 280, 1).due("byte 280 of format 4", 0);
    }

    private static RightTest wide(int format) {
        return new RightTest().node(7, format, "", null, 1, 11, 2, 12, 255, 13)
            .node(11, 1, "", 1L).node(12, 1, "", 1L).node(13, 1, "", 1L).head(1, SEQUENCE, 7, 3);
    }

    private static void children() {
        for (int format = 1; format <= 2; format++) {
            int most = format == 1 ? 4 : 16;
            String name = "format " + format + ", ";
            wide(format).due(name + "as it is", 5);
            wide(format).set(7, 23, 2).due(name + "one too few", 0);
            wide(format).set(7, 23, 4).due(name + "one too many", 0);
            wide(format).set(7, 23, most + 1).due(name + "more than it holds", 0);
            wide(format).set(7, 23, 255).due(name + "255", 0);
            wide(format).set(7, 24, 2).due(name + "bytes alike", 0);
            wide(format).set(7, 24, 3).due(name + "bytes falling", 0);
            wide(format).set(7, 24, 0).due(name + "byte 0", 5);
            wide(format).set(7, 24 + most, 0).due(name + "page 0", 0);
            wide(format).set(7, 24 + most, 1).due(name + "page 1", 0);
            wide(format).set(7, 24 + most, 12).due(name + "a page twice", 0);
            wide(format).set(7, 24 + most, 7).due(name + "its own page", 0);
            wide(format).set(7, 24 + most, 90).due(name + "a page of 0s", 0);
            wide(format).set(7, 24 + most + 3, 14).due(name + "a page behind", 0);
            wide(format).set(7, 27, 1).due(name + "a byte behind", 0);
        }
    }

    private static void places() {
        wide(3).due("format 3, as it is", 5);
        wide(3).set(7, 23, 2).due("format 3, one too few", 0);
        wide(3).set(7, 23, 4).due("format 3, one too many", 0);
        wide(3).set(7, 23, 49).due("format 3, 49", 0);
        wide(3).set(7, 25, 2).set(7, 26, 1).due("format 3, places the other way", 0);
        wide(3).set(7, 26, 1).due("format 3, a place twice", 0);
        wide(3).set(7, 25, 2).set(7, 26, 3).set(7, 279, 4).due("format 3, places from 2 on", 0);
        wide(3).set(7, 279, 4).set(7, 283, 13).set(7, 282, 0).due("format 3, a place left out", 0);
        wide(3).set(7, 27, 4).due("format 3, a place more", 0);
        wide(3).set(7, 283, 14).due("format 3, a page behind", 0);
        wide(3).set(7, 280, 12).due("format 3, a page twice", 0);
        wide(3).set(7, 280, 1).due("format 3, page 1", 0);
        wide(3).set(7, 280, 0).due("format 3, page 0", 0);
    }

    private static void bytesOfFormat4() {
        wide(4).due("format 4, as it is", 5);
        wide(4).set(7, 23, 2).due("format 4, one too few", 0);
        wide(4).set(7, 23, 4).due("format 4, one too many", 0);
        wide(4).set(7, 25, 12).due("format 4, a page twice", 0);
        wide(4).set(7, 25, 1).due("format 4, page 1", 0);
        wide(4).set(7, 25, 7).due("format 4, its own page", 0);
        wide(4).set(7, 25, 0).set(7, 24, 11).due("format 4, another byte", 5);
        wide(4).set(7, 100, 14).due("format 4, a page more", 0);
    }

    private static void reasons() {
        RightTest inner = new RightTest().node(2, 1, "", 1L, 5, 3).node(3, 1, "", null, 6, 4).node(4, 1, "", 1L);
        inner.head(1, SEQUENCE, 2, 2).due("an inner node with one child and no value", 0);
        inner.node(3, 1, "", 0L, 6, 4).head(1, SEQUENCE, 2, 3).due("an inner node with one child and a value", 5);
        inner.node(3, 1, "", null).head(1, SEQUENCE, 2, 1).due("a leaf without a value", 0);
        RightTest root = new RightTest().node(2, 1, "", null, 5, 3).node(3, 1, "", 1L);
        root.head(1, SEQUENCE, 2, 1).due("a root with one child and no value", 0);
        root.node(2, 1, "", 0L, 5, 3).head(1, SEQUENCE, 2, 2).due("a root with one child and a value", 5);
        RightTest bare = new RightTest().head(1, SEQUENCE, 2, 0);
        bare.node(2, 1, "", null).due("a bare root", 5);
        bare.node(2, 2, "", null).due("a bare root of format 2", 0);
        bare.node(2, 4, "", null).due("a bare root of format 4", 0);
        bare.node(2, 1, "a", null).due("a bare root with a prefix", 0);
        bare.node(2, 4, "a", 0L).head(1, SEQUENCE, 2, 1).due("a root of format 4 with a value alone", 5);
    }

    private static void sharedPages() {
        RightTest loop = new RightTest().node(2, 1, "", 1L, 5, 3).node(3, 1, "", 1L, 6, 2);
        loop.head(1, SEQUENCE, 2, 2).due("a child that is the root", 0);
        RightTest self = new RightTest().node(2, 1, "", 1L, 5, 2).head(1, SEQUENCE, 2, 1);
        self.due("a root that is its own child", 0);
        RightTest twice = new RightTest().node(2, 1, "", 1L, 5, 3, 6, 4).node(3, 1, "", 1L, 7, 5)
            .node(4, 1, "", 1L, 7, 5).node(5, 1, "", 1L);
        twice.head(1, SEQUENCE, 2, 5).due("a node of two parents", 0);
        twice.head(1, SEQUENCE, 2, 4).due("a node of two parents, counted once", 0);
        RightTest onHead = new RightTest().node(2, 1, "", 1L, 5, 1).node(1, 1, "", 1L).head(0, 6, 2, 2);
        onHead.due("a child on page 1", 0);
        onHead.node(2, 1, "", 1L, 5, 3).node(3, 1, "", 1L).due("the same on page 3", 6);
        onHead.head(0, 6, 1, 1).due("a root on page 1", 0);
        onHead.head(0, 6, 3, 1).due("the same root on page 3", 6);
    }

    private static void keyLengths() {
        RightTest two = new RightTest().node(2, 1, "abcde", 1L, 5, 3).head(1, SEQUENCE, 2, 2);
        two.node(3, 1, "abcdef", 1L).due("a key of 12 bytes in two nodes", 5);
        two.node(3, 1, "abcdefg", 1L).due("a key of 13 bytes in two nodes", 0);
        RightTest edge = new RightTest().node(2, 1, "abcdefghijkl", 1L, 5, 3).node(3, 1, "", 1L);
        edge.head(1, SEQUENCE, 2, 2).due("a child behind 12 bytes", 0);
        RightTest chain = new RightTest();
        for (int i = 0; i < 13; i++) {
            chain.node(2 + i, 1, "", 1L, i == 12 ? new int[0] : new int[] {i, 3 + i});
        }
        RadixPages x = chain.head(1, SEQUENCE, 2, 13).due("13 nodes in a chain", 5);
        Checks.due("the deepest", x.count(10), 13);
        Checks.due("the longest", x.nth(12), 12);
        chain.node(14, 1, "", 1L, 12, 15).node(15, 1, "", 1L).head(1, SEQUENCE, 2, 14).due("14 nodes in a chain", 0);
    }

    private static void keyCounts() {
        small().head(1, SEQUENCE, 7, 2).due("a key too few", 0);
        small().head(1, SEQUENCE, 7, 4).due("a key too many", 0);
        small().head(1, SEQUENCE, 7, 256 + 3).due("256 keys too many", 0);
    }

    private static void tooManyNodes() {
        Checks.due("199 nodes", startWithMoreLeaves(0), 2);
        Checks.due("200 nodes", startWithMoreLeaves(1), 2);
        Checks.due("201 nodes", startWithMoreLeaves(2), 0);
    }

    /**
     * A tree of 199 nodes, two leaves of which were written anew: their old pages are still right, and
     * the root gets so many of them as children. The older head is spoilt.
     */
    private static long startWithMoreLeaves(int more) {
        RadixPages x = new RadixPages();
        Checks.putBits(x, 100);
        x.commit();
        int[] old = {2, x.node(198, 4)};
        Checks.put(x, Checks.bits(0), -1);
        Checks.put(x, Checks.bits(99), -1);
        x.commit();
        int page = x.count(9);
        int[] row = new int[512];
        for (int i = 0; i < 32; i++) {
            row[i] = x.octet(page, i);
        }
        Checks.seal(row);
        int[] wider = row.clone();
        for (int i = 0; i < more; i++) {
            wider[24 + 2 + i] = 7 + i;
            wider[28 + 2 + i] = old[i];
        }
        wider[23] += more;
        Checks.seal(wider);
        Checks.pokeAll(x, page, row, wider);
        Checks.pokeAll(x, 0, Model.encodeHead(2, page, 100), Model.encodeHead(2, page, 100 + more));
        x.poke(1, 0, 2);
        x.halt();
        return x.start();
    }

    private static void formatsThatAreLet() {
        RadixPages x = wide(4).due("format 4 with three children", 5);
        Checks.remove(x, Checks.text(1));
        Checks.due("one format less", x.node(0, 0), 3);
        Checks.put(x, Checks.text(3), 1);
        Checks.due("it does not grow before it must", x.node(0, 0), 3);
        Checks.remove(x, Checks.text(3));
        Checks.due("again one less", x.node(0, 0), 2);
        Checks.remove(x, Checks.text(2));
        Checks.due("put together, the lower one's", x.node(0, 0), 1);
        RadixPages y = wide(3).set(13, 0, 4).due("a leaf of format 4", 5);
        Checks.remove(y, Checks.text(1));
        Checks.remove(y, Checks.text(2));
        Checks.due("put together with it", y.node(0, 0), 4);
        Checks.put(y, Checks.text(255, 1), 1);
        Checks.due("it holds a child more", y.node(0, 0), 4);
        Checks.remove(y, Checks.text(255, 1));
        Checks.due("and is one less without it", y.node(0, 0), 3);
        Checks.remove(y, Checks.text(255));
        Checks.due("a root without keys is of format 1", y.node(0, 0), 1);
    }

    private static void pokeBeforeStart() {
        RadixPages x = new RadixPages();
        Checks.put(x, "a", 1);
        x.commit();
        x.poke(1, 0, 255);
        x.poke(2, 9, 255);
        Checks.due("get behind pokes", x.get(), 1);
        Checks.due("count behind pokes", x.count(8), 1);
        Checks.put(x, "b", 2);
        Checks.due("commit behind pokes", x.commit(), 4);
        x.halt();
        Checks.due("start with the page of a as committed anew", x.start(), 2);
        Checks.due("a", Checks.get(x, "a"), 1);
    }
}
