/** RIGHT, for promises 16 and 19: each thing that makes a head or a tree not right, with a test of its own. */
final class RightTest {
    private static final long SEQUENCE = 5;
    private static final int[] MOST = {0, 4, 16, 48, 256};

    public static void main(String[] args) {
        plainTrees();
        headsByte0();
        headsZeros();
        headsSum();
        headsSequence();
        headsParity();
        headsRoot();
        nodesSum();
        nodesFormat();
        nodesByte1();
        valueWithoutOne();
        valueNo();
        prefixLength();
        notUsedByLeaves();
        notUsedByParents();
        childrensPages();
        pagesOfOtherNodes();
        bytesRising();
        asManyAsByte23();
        placesAsTold();
        valueOrTwoChildren();
        theRootToo();
        keysOf12();
        asManyKeysAsTheHeadSays();
        notMoreThan200Nodes();
        formatsHoldTheirChildren();
        formatsNeedNotBeLeast();
        pokeBeforeStart();
        Checks.end();
    }

    /** A root "r" with children by 0 and 9, three keys. */
    private static Layout small() {
        return new Layout().node(7, 1, "r", 1L, 0, 8, 9, 10).node(8, 1, "", -2L).node(10, 1, "xy", 0L)
            .head(1, SEQUENCE, 7, 3);
    }

    /** A root of a format with children by 1, 2, 255. */
    private static Layout wide(int format) {
        return new Layout().node(7, format, "", null, 1, 11, 2, 12, 255, 13)
            .node(11, 1, "", 1L).node(12, 1, "", 1L).node(13, 1, "", 1L).head(1, SEQUENCE, 7, 3);
    }

    /** Where the page of a child stands on its parent's page, by its place from 0 on and its byte. */
    private static int pageAt(int format, int place, int b) {
        return format == 4 ? 24 + b : format == 3 ? 280 + place : 24 + MOST[format] + place;
    }

    private static void plainTrees() {
        Checks.by("if all of it is RIGHT, that is the tree");
        RadixPages x = small().due("small", SEQUENCE);
        Checks.dueCounts(x, 3, 3, 3, 0, 0, 0, 0, 251, 5, 7, 2);
        Checks.dueNode(x, 2, 1, 0, 2, 1, 10, 2);
        Checks.due("r", Checks.get(x, "r"), 1);
        Checks.due("r0", Checks.get(x, Checks.text('r', 0)), -2);
        Checks.due("r9xy", Checks.get(x, Checks.text('r', 9, 'x', 'y')), 0);
        Checks.due("put", x.put(7), 0);
        Checks.due("commit", x.commit(), 3);
        Checks.due("page of what was put", x.node(2, 4), 2);
        Checks.due("page of the root", x.count(9), 3);
        Checks.due("sequence", x.count(8), SEQUENCE + 1);
        for (int format = 1; format <= 4; format++) {
            wide(format).due("wide", SEQUENCE);
        }
    }

    private static void headsByte0() {
        Checks.by("RIGHT: a head whose byte 0 is 1");
        for (int b : new int[] {0, 2, 3, 129, 255}) {
            small().set(1, 0, b).due("byte 0 is " + b, 0);
        }
    }

    private static void headsZeros() {
        Checks.by("whose bytes 12 to 503 are 0");
        for (int i = 12; i <= 503; i++) {
            small().set(1, i, 1 << i % 8).due("byte " + i, 0);
        }
    }

    private static void headsSum() {
        Checks.by("whose SUM is right");
        for (int i = 0; i < 64; i++) {
            int at = 504 + i / 8;
            Layout layout = small();
            layout.setUnsealed(1, at, layout.at(1, at) ^ 1 << i % 8).due("bit " + i + " of the sum", 0);
        }
        for (int i = 1; i < 12; i++) {
            Layout layout = small().set(1, 7, 1);
            layout.setUnsealed(1, i, layout.at(1, i) ^ 128).due("the sum of another byte " + i, 0);
        }
    }

    private static void headsSequence() {
        Checks.by("whose sequence is 1 .. 1000000000");
        small().head(1, 1, 7, 3).due("1", 1);
        small().head(1, 999999999, 7, 3).due("999999999", 999999999);
        small().without(1).head(0, 1000000000, 7, 3).due("1000000000", 1000000000);
        small().without(1).head(0, 2, 7, 3).due("2", 2);
        small().without(1).head(0, 0, 7, 3).due("0", 0);
        small().head(1, 1000000001, 7, 3).due("1000000001", 0);
        small().without(1).head(0, 1000000002, 7, 3).due("1000000002", 0);
        small().head(1, -1, 7, 3).due("-1", 0);
        small().without(1).head(0, Long.MIN_VALUE, 7, 3).due("the least long", 0);
        small().head(1, Long.MAX_VALUE, 7, 3).due("the greatest long", 0);
        small().head(1, 0x100000001L, 7, 3).due("33 bits", 0);
        small().head(1, 0x0100000000000001L, 7, 3).due("57 bits", 0);
        RadixPages x = small().without(1).head(0, 1000000000, 7, 3).due("1000000000", 1000000000);
        Checks.put(x, "q", 1);
        x.commit();
        Checks.due("the sequence goes on", x.count(8), 1000000001);
        x.halt();
        Checks.due("but is not right then", x.start(), 1000000000);
    }

    private static void headsParity() {
        Checks.by("and even on page 0, odd on page 1");
        small().head(1, 4, 7, 3).due("even on page 1", 0);
        small().without(1).head(0, 5, 7, 3).due("odd on page 0", 0);
        small().without(1).head(0, 6, 7, 3).due("even on page 0", 6);
        small().head(1, 7, 7, 3).due("odd on page 1", 7);
        small().head(0, 7, 7, 3).due("a greater one, odd on page 0", SEQUENCE);
    }

    private static void headsRoot() {
        Checks.by("whose root's page is 2 or more");
        small().set(1, 9, 0).due("0", 0);
        small().set(1, 9, 1).due("1", 0);
        for (int page : new int[] {2, 255}) {
            RadixPages x = new Layout().node(page, 1, "", null).head(1, 1, page, 0).due("page " + page, 1);
            Checks.dueCounts(x, 0, 1, 1, 0, 0, 0, 0, 253, 1, page, 1);
        }
        Layout nodeOnAHead = new Layout().node(1, 1, "", 1L);
        nodeOnAHead.head(0, 6, 1, 1).due("a right node on page 1", 0);
        nodeOnAHead.node(3, 1, "", 1L).head(0, 6, 3, 1).due("the same on page 3", 6);
        small().set(1, 9, 8).due("another node", 0);
        small().set(1, 9, 200).due("a page of 0s", 0);
    }

    private static void nodesSum() {
        Checks.by("each page's SUM is right");
        for (int i = 0; i < 64; i++) {
            int at = 504 + i / 8;
            for (int page : new int[] {7, 8, 10}) {
                Layout layout = small();
                layout.setUnsealed(page, at, layout.at(page, at) ^ 1 << i % 8).dueNotRight("bit " + i + " of the sum");
            }
        }
        small().setUnsealed(10, 9, 1).dueNotRight("another value");
        small().setUnsealed(10, 12, 'z').dueNotRight("another prefix");
        small().setUnsealed(7, 25, 8).dueNotRight("another child's byte");
        small().setUnsealed(8, 0, 2).dueNotRight("another format");
    }

    private static void nodesFormat() {
        Checks.by("its format 1 .. 4");
        for (int page : new int[] {7, 8}) {
            for (int format : new int[] {0, 5, 6, 128, 255}) {
                small().set(page, 0, format).dueNotRight("format " + format);
            }
        }
        for (int format = 1; format <= 4; format++) {
            small().set(8, 0, format).due("format " + format, SEQUENCE);
        }
    }

    private static void nodesByte1() {
        Checks.by("byte 1 is 0 or 1");
        for (int b : new int[] {2, 3, 128, 129, 255}) {
            small().set(7, 1, b).dueNotRight("byte 1 is " + b);
            small().set(8, 1, b).dueNotRight("byte 1 is " + b);
        }
    }

    private static void valueWithoutOne() {
        Checks.by("the value 0 without one");
        Layout none = small().node(7, 1, "r", null, 0, 8, 9, 10).set(1, 11, 2);
        none.due("0", SEQUENCE);
        for (int i = 2; i <= 9; i++) {
            none.set(7, i, 1).dueNotRight("byte " + i + " of the value");
            none.set(7, i, 0);
        }
        none.set(7, 2, 128).dueNotRight("NO");
    }

    private static void valueNo() {
        Checks.by("and not NO");
        small().node(8, 1, "", Long.MIN_VALUE).dueNotRight("a leaf's NO");
        small().node(7, 1, "r", Long.MIN_VALUE, 0, 8, 9, 10).dueNotRight("the root's NO");
        RadixPages x = small().node(8, 1, "", Long.MIN_VALUE + 1).due("the next value", SEQUENCE);
        Checks.due("get", Checks.get(x, Checks.text('r', 0)), Long.MIN_VALUE + 1);
        small().node(8, 1, "", Long.MAX_VALUE).due("the greatest value", SEQUENCE);
    }

    private static void prefixLength() {
        Checks.by("the prefix's length 12 at most");
        Layout lone = new Layout().node(2, 1, "abcdefghijkl", 1L).head(1, SEQUENCE, 2, 1);
        lone.due("12", SEQUENCE);
        for (int length : new int[] {13, 14, 128, 255}) {
            lone.set(2, 10, length).dueNotRight("" + length);
        }
        small().set(10, 10, 3).due("a prefix with a 0 at its end", SEQUENCE);
        small().set(10, 10, 9).due("a key of 11 bytes by it", SEQUENCE);
    }

    private static void notUsedByLeaves() {
        Checks.by("all that is not used 0: of a node without children");
        for (int format = 1; format <= 4; format++) {
            for (int i = 12; i <= 503; i++) {
                if (i != 23) {
                    Layout lone = new Layout().node(2, format, "a", 1L).head(1, SEQUENCE, 2, 1);
                    lone.set(2, i, 1 << i % 8).dueNotRight("format " + format + ", byte " + i);
                }
            }
        }
    }

    private static void notUsedByParents() {
        Checks.by("all that is not used 0: of a node with children");
        for (int format = 1; format <= 4; format++) {
            for (int i = 11; i <= 503; i++) {
                boolean used = i == 23 || i >= 24 && wide(format).at(7, i) != 0;
                if (!used) {
                    wide(format).set(7, i, 14).dueNotRight("format " + format + ", byte " + i);
                }
            }
        }
    }

    private static void childrensPages() {
        Checks.by("all children's pages 2 .. 255");
        for (int format = 1; format <= 4; format++) {
            int[] bytes = {1, 2, 255};
            for (int place = 0; place < 3; place++) {
                int at = pageAt(format, place, bytes[place]);
                String name = "format " + format + ", child " + place + ", ";
                wide(format).set(7, at, 0).dueNotRight(name + "page 0");
                wide(format).set(7, at, 1).dueNotRight(name + "page 1");
                wide(format).set(7, at, 2).node(2, 1, "", 1L).due(name + "page 2", SEQUENCE);
                wide(format).set(7, at, 255).node(255, 1, "", 1L).due(name + "page 255", SEQUENCE);
                wide(format).set(7, at, 90).dueNotRight(name + "a page of 0s");
            }
            Layout onHead = wide(format).without(1).head(0, 6, 7, 3).node(1, 1, "", 1L);
            onHead.due("format " + format + ", a right node on page 1 beside it", 6);
            onHead.set(7, pageAt(format, 0, 1), 1).due("format " + format + ", a right node on page 1 as child", 0);
        }
    }

    private static void pagesOfOtherNodes() {
        Checks.by("and of no other node of it");
        for (int format = 1; format <= 4; format++) {
            String name = "format " + format + ", ";
            wide(format).set(7, pageAt(format, 0, 1), 12).dueNotRight(name + "a child twice");
            wide(format).set(7, pageAt(format, 2, 255), 11).dueNotRight(name + "a child twice, the last one");
            wide(format).set(7, pageAt(format, 1, 2), 7).dueNotRight(name + "the root");
        }
        Layout loop = new Layout().node(2, 1, "", 1L, 5, 3).node(3, 1, "", 1L, 6, 2);
        loop.head(1, SEQUENCE, 2, 2).dueNotRight("a child that has the root as child");
        Layout cousins = new Layout().node(2, 1, "", 1L, 5, 3, 6, 4).node(3, 1, "", 1L, 7, 5)
            .node(4, 1, "", 1L, 7, 5).node(5, 1, "", 1L);
        cousins.head(1, SEQUENCE, 2, 5).dueNotRight("a node of two parents");
        cousins.head(1, SEQUENCE, 2, 4).dueNotRight("a node of two parents, counted once");
        Layout uncle = new Layout().node(2, 1, "", 1L, 5, 3, 6, 4).node(3, 1, "", 1L, 7, 4).node(4, 1, "", 1L);
        uncle.head(1, SEQUENCE, 2, 4).dueNotRight("a node of two levels");
    }

    private static void bytesRising() {
        Checks.by("bytes rising");
        for (int format = 1; format <= 2; format++) {
            String name = "format " + format + ", ";
            wide(format).set(7, 24, 0).due(name + "0, 2, 255", SEQUENCE);
            wide(format).set(7, 24, 2).dueNotRight(name + "2, 2, 255");
            wide(format).set(7, 24, 3).dueNotRight(name + "3, 2, 255");
            wide(format).set(7, 25, 255).dueNotRight(name + "1, 255, 255");
            wide(format).set(7, 25, 1).dueNotRight(name + "1, 1, 255");
            wide(format).set(7, 26, 3).due(name + "1, 2, 3", SEQUENCE);
            wide(format).set(7, 26, 0).dueNotRight(name + "1, 2, 0");
            wide(format).set(7, 25, 127).set(7, 26, 128).due(name + "1, 127, 128", SEQUENCE);
        }
    }

    private static void asManyAsByte23() {
        Checks.by("as many as byte 23 says");
        for (int format = 1; format <= 4; format++) {
            for (int said : new int[] {0, 1, 2, 4, MOST[format] + 1 & 255, 128, 255}) {
                wide(format).set(7, 23, said).dueNotRight("format " + format + ", " + said);
            }
        }
    }

    private static void placesAsTold() {
        Checks.by("and places in format 3 just as told");
        wide(3).set(7, 25, 2).set(7, 26, 1).dueNotRight("the other way");
        wide(3).set(7, 26, 1).dueNotRight("twice");
        wide(3).set(7, 25, 2).set(7, 26, 3).set(7, 279, 4).dueNotRight("from 2 on");
        wide(3).set(7, 25, 2).set(7, 26, 3).set(7, 279, 4).set(7, 280, 0).set(7, 281, 11).set(7, 282, 12).set(7, 283, 13)
            .dueNotRight("from 2 on, the pages too");
        wide(3).set(7, 279, 4).set(7, 283, 13).set(7, 282, 0).dueNotRight("one left out");
        wide(3).set(7, 25, 49).dueNotRight("49");
        wide(3).set(7, 279, 255).dueNotRight("255");
        wide(3).set(7, 27, 4).dueNotRight("one more");
        wide(3).set(7, 24, 1).set(7, 25, 0).due("by another byte", SEQUENCE);
    }

    private static void valueOrTwoChildren() {
        Checks.by("a node that is not the root has a value or two children");
        Layout inner = new Layout().node(2, 1, "", 1L, 5, 3).node(4, 1, "", 1L).node(5, 1, "", 1L);
        inner.node(3, 1, "", null, 6, 4).head(1, SEQUENCE, 2, 2).dueNotRight("one child and no value");
        inner.node(3, 1, "", 0L, 6, 4).head(1, SEQUENCE, 2, 3).due("one child and a value", SEQUENCE);
        inner.node(3, 1, "", null, 6, 4, 7, 5).head(1, SEQUENCE, 2, 3).due("two children and no value", SEQUENCE);
        inner.node(3, 1, "", null).head(1, SEQUENCE, 2, 1).dueNotRight("neither");
        inner.node(3, 1, "", 0L).head(1, SEQUENCE, 2, 2).due("a value alone", SEQUENCE);
    }

    private static void theRootToo() {
        Checks.by("the root too, or neither (then no prefix and format 1)");
        Layout root = new Layout().node(3, 1, "", 1L).node(4, 1, "", 1L);
        root.node(2, 1, "", null, 5, 3).head(1, SEQUENCE, 2, 1).dueNotRight("one child and no value");
        root.node(2, 1, "", 0L, 5, 3).head(1, SEQUENCE, 2, 2).due("one child and a value", SEQUENCE);
        root.node(2, 1, "", null, 5, 3, 6, 4).head(1, SEQUENCE, 2, 2).due("two children and no value", SEQUENCE);
        root.node(2, 4, "a", 0L).head(1, SEQUENCE, 2, 1).due("a value alone", SEQUENCE);
        Layout bare = new Layout().head(1, SEQUENCE, 2, 0);
        bare.node(2, 1, "", null).due("neither", SEQUENCE);
        bare.node(2, 1, "a", null).dueNotRight("neither, with a prefix");
        bare.node(2, 1, Checks.text(0), null).dueNotRight("neither, with a prefix of 0");
        for (int format = 2; format <= 4; format++) {
            bare.node(2, format, "", null).dueNotRight("neither, of format " + format);
        }
    }

    private static void keysOf12() {
        Checks.by("no key is longer than 12");
        Layout two = new Layout().node(2, 1, "abcde", 1L, 5, 3).head(1, SEQUENCE, 2, 2);
        two.node(3, 1, "abcdef", 1L).due("12 bytes in two nodes", SEQUENCE);
        two.node(3, 1, "abcdefg", 1L).dueNotRight("13 bytes in two nodes");
        Layout byEdge = new Layout().node(2, 1, "abcdefghijkl", 1L, 5, 3).node(3, 1, "", 1L);
        byEdge.head(1, SEQUENCE, 2, 2).dueNotRight("a child behind 12 bytes");
        byEdge.node(2, 1, "abcdefghijk", 1L, 5, 3).due("a child behind 11 bytes", SEQUENCE);
        Layout chain = new Layout();
        for (int i = 0; i < 13; i++) {
            chain.node(2 + i, 1, "", 1L, i == 12 ? new int[0] : new int[] {i, 3 + i});
        }
        RadixPages x = chain.head(1, SEQUENCE, 2, 13).due("13 nodes in a chain", SEQUENCE);
        Checks.due("the deepest", x.count(10), 13);
        Checks.due("the longest", x.nth(12), 12);
        chain.node(14, 1, "", 1L, 12, 15).node(15, 1, "", 1L).head(1, SEQUENCE, 2, 14).dueNotRight("14 nodes in a chain");
    }

    private static void asManyKeysAsTheHeadSays() {
        Checks.by("there are as many as the head says");
        for (int keys : new int[] {0, 2, 4, 256 + 3, 255 * 256 + 3, 65535}) {
            small().head(1, SEQUENCE, 7, keys).due(keys + " keys", 0);
        }
        new Layout().node(2, 1, "", null).head(1, SEQUENCE, 2, 1).due("1 of none", 0);
        small().head(0, 6, 7, 2).due("so the other head's", SEQUENCE);
    }

    private static void notMoreThan200Nodes() {
        Checks.by("and not more than 200 nodes");
        Checks.due("199 nodes", startWithMoreLeaves(0), 2);
        Checks.due("200 nodes", startWithMoreLeaves(1), 2);
        Checks.due("201 nodes", startWithMoreLeaves(2), 0);
    }

    /**
     * A tree of 199 nodes, two leaves of which were written anew: their old pages are still right, and
     * the root gets so many of them as children. The older head is spoilt.
     */
    private static long startWithMoreLeaves(int more) {
        RadixPages x = new RadixPages();
        Checks.putBits(x, 100);
        x.commit();
        int[] old = {2, x.node(198, 4)};
        Checks.put(x, Checks.bits(0), -1);
        Checks.put(x, Checks.bits(99), -1);
        x.commit();
        int page = x.count(9);
        int[] row = new int[512];
        for (int i = 0; i < 32; i++) {
            row[i] = x.octet(page, i);
        }
        Checks.seal(row);
        int[] wider = row.clone();
        for (int i = 0; i < more; i++) {
            wider[24 + 2 + i] = 7 + i;
            wider[28 + 2 + i] = old[i];
        }
        wider[23] += more;
        Checks.seal(wider);
        Checks.pokeAll(x, page, row, wider);
        Checks.pokeAll(x, 0, Model.encodeHead(2, page, 100), Model.encodeHead(2, page, 100 + more));
        x.poke(1, 0, 2);
        x.halt();
        long sequence = x.start();
        Checks.due("nodes", x.count(1), sequence == 0 ? 1 : 199 + more);
        return sequence;
    }

    private static void formatsHoldTheirChildren() {
        Checks.by("(Formats need not be as few children would have them, but hold them.)");
        int[] five = {1, 11, 2, 12, 3, 13, 4, 14, 5, 15};
        Layout layout = new Layout().head(1, SEQUENCE, 7, 5).node(7, 2, "", null, five);
        for (int page = 11; page <= 15; page++) {
            layout.node(page, 1, "", 1L);
        }
        layout.due("five in format 2", SEQUENCE);
        layout.node(7, 3, "", null, five).due("five in format 3", SEQUENCE);
        layout.node(7, 4, "", null, five).due("five in format 4", SEQUENCE);
        layout.node(7, 1, "", null, 1, 11, 2, 12, 3, 13, 4, 14).head(1, SEQUENCE, 7, 4).due("four in format 1", SEQUENCE);
        layout.node(7, 1, "", null, five).head(1, SEQUENCE, 7, 5).dueNotRight("five in format 1");
        layout.node(7, 1, "", null, 1, 11, 2, 12, 3, 13, 4, 14).set(7, 23, 5).dueNotRight("five said in format 1");
    }

    private static void formatsNeedNotBeLeast() {
        Checks.by("(Formats need not be as few children would have them: such a tree goes on as it is)");
        RadixPages x = wide(4).due("format 4 with three children", SEQUENCE);
        Checks.dueCounts(x, 3, 4, 3, 0, 0, 1);
        Checks.remove(x, Checks.text(1));
        Checks.due("one format less", x.node(0, 0), 3);
        Checks.put(x, Checks.text(3), 1);
        Checks.due("it does not grow before it must", x.node(0, 0), 3);
        Checks.remove(x, Checks.text(3));
        Checks.due("again one less", x.node(0, 0), 2);
        Checks.remove(x, Checks.text(2));
        Checks.due("put together, the lower one's", x.node(0, 0), 1);
        RadixPages y = wide(3).set(13, 0, 4).due("a leaf of format 4", SEQUENCE);
        Checks.remove(y, Checks.text(1));
        Checks.remove(y, Checks.text(2));
        Checks.due("put together with it", y.node(0, 0), 4);
        Checks.put(y, Checks.text(255, 1), 1);
        Checks.due("it holds a child more", y.node(0, 0), 4);
        Checks.remove(y, Checks.text(255, 1));
        Checks.due("and is one less without it", y.node(0, 0), 3);
        Checks.remove(y, Checks.text(255));
        Checks.due("a root without keys is of format 1", y.node(0, 0), 1);
    }

    private static void pokeBeforeStart() {
        Checks.by("(What the tree is does not hang on that before start().)");
        RadixPages x = new RadixPages();
        Checks.put(x, "a", 1);
        x.commit();
        x.poke(1, 0, 255);
        x.poke(2, 9, 255);
        Checks.due("get behind pokes", x.get(), 1);
        Checks.due("count behind pokes", x.count(8), 1);
        Checks.put(x, "b", 2);
        Checks.due("commit behind pokes", x.commit(), 4);
        x.halt();
        Checks.due("start with the page of a as committed anew", x.start(), 2);
        Checks.due("a", Checks.get(x, "a"), 1);
    }
}
