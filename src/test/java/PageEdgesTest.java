import java.util.function.Supplier;

/** The sentences of PAGES, BATCH, COMMIT, A NODE'S PAGE and A HEAD that name an edge, each with a test of its own. */
final class PageEdgesTest {
    public static void main(String[] args) {
        pagesAtFirst();
        headsAreNotForNodes();
        whatMakesNothingNew();
        anotherValue();
        theWayFromTheRoot();
        whatWasMade();
        whatWasPutTogether();
        batchThatEndsWhereItBegan();
        behindTheChildren();
        leastPage();
        pagesOfTheTreeBefore();
        headBySequence();
        nothingNew();
        asManyFreePages();
        notAsManyFreePages();
        valueOnThePage();
        prefixOnThePage();
        listedChildren();
        placedChildren();
        childrenByByte();
        notUsedIsZero();
        theSum();
        theHead();
        Checks.end();
    }

    /** Looks at all bytes of a page; an object is good for 512 calls alone, so that two are made. */
    private static void duePage(String what, Supplier<RadixPages> made, int page, int[] want) {
        Checks.dueHalf(what, made.get(), page, 0, want);
        Checks.dueHalf(what, made.get(), page, 1, want);
    }

    private static int[] row(int format, Long value, String prefix) {
        int[] row = new int[Checks.PAGE_BYTES];
        row[0] = format;
        row[1] = value == null ? 0 : 1;
        Checks.setLong(row, 2, value == null ? 0 : value);
        row[10] = prefix.length();
        for (int i = 0; i < prefix.length(); i++) {
            row[11 + i] = prefix.charAt(i);
        }
        return row;
    }

    private static int[] sealed(int[] row) {
        Checks.seal(row);
        return row;
    }

    /** One-byte keys, committed. */
    private static RadixPages committed(int from, int to) {
        RadixPages x = new RadixPages();
        Checks.putBytes(x, from, to);
        x.commit();
        return x;
    }

    private static void pagesAtFirst() {
        Checks.by("PAGES 0 .. 255 of 512 bytes, all 0 at first.");
        int[] pages = {0, 1, 2, 3, 128, 254, 255};
        for (int page : pages) {
            RadixPages x = new RadixPages();
            Checks.due("the first byte", x.octet(page, 0), 0);
            Checks.due("the last byte", x.octet(page, 511), 0);
            Checks.due("poke of the last byte", x.poke(page, 511, 1), 1);
            Checks.throwsIt("a byte more", IndexOutOfBoundsException.class, () -> x.octet(page, 512));
        }
        RadixPages x = new RadixPages();
        Checks.throwsIt("a page more", IndexOutOfBoundsException.class, () -> x.octet(256, 0));
    }

    private static void headsAreNotForNodes() {
        Checks.by("Pages 0 and 1 are HEADS, the others are for nodes.");
        RadixPages x = new RadixPages();
        Checks.due("free pages", x.count(7), 254);
        Checks.put(x, "a", 1);
        x.commit();
        Checks.due("the first node's page", x.count(9), 2);
        Checks.due("free pages", x.count(7), 253);
        Checks.due("page 0", x.octet(0, 0), 0);
        Checks.due("page 1", x.octet(1, 0), 1);
    }

    private static void whatMakesNothingNew() {
        Checks.by("each such call that changes something: not one that changes nothing");
        RadixPages x = committed(0, 3);
        Checks.due("put of the same value", Checks.put(x, Checks.text(1), 1), 0);
        Checks.due("remove of a key that is not there", Checks.remove(x, Checks.text(9)), 0);
        Checks.due("put of NO", Checks.put(x, Checks.text(1), Checks.NO), Checks.NONE);
        Checks.due("put of 13 bytes", Checks.put(x, "abcdefghijklm", 1), Checks.NONE);
        Checks.due("new nodes", x.count(6), 0);
        Checks.due("the root's page", x.count(9), 5);
        Checks.due("commit", x.commit(), 0);
    }

    private static void anotherValue() {
        Checks.by("(a put of another value, too)");
        RadixPages x = committed(0, 3);
        Checks.due("put", Checks.put(x, Checks.text(1), 9), 0);
        Checks.due("new nodes", x.count(6), 2);
        Checks.due("the root's page", x.count(9), 0);
        Checks.due("its page", x.node(2, 4), 0);
        Checks.due("the page of the one beside it", x.node(1, 4), 2);
        Checks.due("commit", x.commit(), 3);
    }

    /** Nodes, each before its children: "", a, ab, abc, abd, b. */
    private static RadixPages deep() {
        RadixPages x = new RadixPages();
        for (String key : new String[] {"", "a", "ab", "abc", "abd", "b"}) {
            Checks.put(x, key, 1);
        }
        x.commit();
        return x;
    }

    private static void dueNew(RadixPages x, int... fresh) {
        int found = 0;
        for (int n = 0; n < fresh.length; n++) {
            Checks.due("node " + n + " is on no page", x.node(n, 4) == 0 ? 1 : 0, fresh[n]);
            found += fresh[n];
        }
        Checks.due("nodes", x.count(1), fresh.length);
        Checks.due("new nodes", x.count(6), found);
    }

    private static void theWayFromTheRoot() {
        Checks.by("makes NEW all nodes on the way from the root to where it changed something");
        RadixPages x = deep();
        dueNew(x, 0, 0, 0, 0, 0, 0);
        Checks.put(x, "ab", 2);
        dueNew(x, 1, 1, 1, 0, 0, 0);
        x.back();
        Checks.put(x, "", 2);
        dueNew(x, 1, 0, 0, 0, 0, 0);
        Checks.remove(x, "b");
        dueNew(x, 1, 0, 0, 0, 0);
        x.back();
        Checks.remove(x, "ab");
        dueNew(x, 1, 1, 1, 0, 0, 0);
        x.back();
        Checks.remove(x, "abd");
        dueNew(x, 1, 1, 1, 0, 0);
    }

    private static void whatWasMade() {
        Checks.by("and those that it made: a child, or both parts of a node cut in two");
        RadixPages x = deep();
        Checks.put(x, "az", 1);
        dueNew(x, 1, 1, 0, 0, 0, 1, 0);
        RadixPages y = new RadixPages();
        Checks.put(y, "a", 1);
        Checks.put(y, "bcde", 1);
        Checks.put(y, "bcdez", 1);
        Checks.put(y, "bcdey", 1);
        y.commit();
        dueNew(y, 0, 0, 0, 0, 0);
        Checks.put(y, "bcx", 1);
        dueNew(y, 1, 0, 1, 1, 0, 0, 1);
        y.back();
        Checks.put(y, "bc", 1);
        dueNew(y, 1, 0, 1, 1, 0, 0);
    }

    private static void whatWasPutTogether() {
        Checks.by("and those that it made or put together: put together");
        RadixPages x = new RadixPages();
        for (String key : new String[] {"a", "b", "bc", "bcd", "bce"}) {
            Checks.put(x, key, 1);
        }
        x.commit();
        dueNew(x, 0, 0, 0, 0, 0, 0);
        Checks.remove(x, "b");
        dueNew(x, 1, 0, 1, 0, 0);
        x.back();
        Checks.remove(x, "a");
        dueNew(x, 1, 0, 0, 0);
        Checks.due("the root's prefix", x.node(0, 2), 1);
    }

    private static void batchThatEndsWhereItBegan() {
        Checks.by("A BATCH is all that was put and removed since the latest COMMIT");
        RadixPages x = committed(0, 3);
        Checks.put(x, Checks.text(1), 9);
        Checks.put(x, Checks.text(1), 1);
        Checks.due("new nodes though the values are as before", x.count(6), 2);
        Checks.put(x, Checks.text(2, 2), 9);
        Checks.remove(x, Checks.text(2, 2));
        Checks.due("new nodes though the keys are as before", x.count(6), 3);
        Checks.due("commit", x.commit(), 4);
        Checks.due("new nodes behind it", x.count(6), 0);
        RadixPages y = new RadixPages();
        Checks.put(y, "a", 1);
        Checks.remove(y, "a");
        Checks.due("a new root though there is no key", y.count(6), 1);
        Checks.due("commit", y.commit(), 2);
        Checks.due("the sequence", y.count(8), 1);
    }

    private static void behindTheChildren() {
        Checks.by("all new nodes are written, each behind its children (those by their bytes)");
        RadixPages x = new RadixPages();
        String[] keys = {Checks.text(200), Checks.text(3, 4), Checks.text(3, 255), Checks.text(3, 0), Checks.text(128, 1, 1)};
        for (String key : keys) {
            Checks.put(x, key, 1);
        }
        Checks.due("commit", x.commit(), 8);
        // the root, 3, its children by 0, 4, 255, then 128 and 200
        int[] pages = {8, 5, 2, 3, 4, 6, 7};
        for (int n = 0; n < pages.length; n++) {
            Checks.due("page of node " + n, x.node(n, 4), pages[n]);
        }
    }

    private static void leastPage() {
        Checks.by("each to the least page that is FREE");
        RadixPages x = committed(0, 4);
        Checks.put(x, Checks.text(0), 9);
        Checks.put(x, Checks.text(2), 9);
        x.commit();
        // 2, 4 and 6 are free now
        Checks.due("page of 0", x.node(1, 4), 7);
        Checks.due("page of 2", x.node(3, 4), 8);
        Checks.due("the root's page", x.count(9), 9);
        Checks.put(x, Checks.text(1), 9);
        Checks.put(x, Checks.text(3), 9);
        Checks.put(x, Checks.text(200), 9);
        x.commit();
        Checks.due("page of 1", x.node(2, 4), 2);
        Checks.due("page of 3", x.node(4, 4), 4);
        Checks.due("page of 200", x.node(5, 4), 6);
        Checks.due("the root's page", x.count(9), 10);
        Checks.put(x, Checks.text(200), 8);
        x.commit();
        Checks.due("page of 200", x.node(5, 4), 3);
        Checks.due("the root's page", x.count(9), 5);
    }

    private static void pagesOfTheTreeBefore() {
        Checks.by("(that no node of the tree as it was committed before, or written now, has)");
        RadixPages x = committed(0, 2);
        Checks.remove(x, Checks.text(0));
        Checks.remove(x, Checks.text(1));
        Checks.due("free pages, though all nodes are new", x.count(7), 251);
        Checks.due("commit", x.commit(), 2);
        Checks.due("the root's page", x.count(9), 5);
        Checks.due("free pages", x.count(7), 253);
        Checks.put(x, "a", 1);
        x.commit();
        Checks.due("the root's page", x.count(9), 2);
        Checks.put(x, "a", 2);
        x.commit();
        Checks.due("the root's page", x.count(9), 3);
        Checks.put(x, "a", 3);
        x.commit();
        Checks.due("the root's page", x.count(9), 2);
    }

    private static void headBySequence() {
        Checks.by("then the head: SEQUENCE (how many commits there were, this one too) % 2");
        RadixPages x = new RadixPages();
        for (int sequence = 1; sequence <= 6; sequence++) {
            Checks.put(x, "a", sequence);
            Checks.due("commit", x.commit(), 2);
            Checks.due("the sequence", x.count(8), sequence);
            Checks.due("its head", x.octet(sequence % 2, 8), sequence);
            Checks.due("the other head", x.octet(1 - sequence % 2, 8), sequence - 1);
            Checks.due("a commit of nothing is none", x.commit(), 0);
            x.put(-1);
            x.back();
        }
    }

    private static void nothingNew() {
        Checks.by("A commit with nothing new does nothing.");
        RadixPages x = new RadixPages();
        Checks.due("commit of a new object", x.commit(), 0);
        Checks.due("page 1", x.octet(1, 0), 0);
        Checks.due("page 2", x.octet(2, 0), 0);
        Checks.put(x, "a", 1);
        x.commit();
        x.power(0, 0);
        Checks.due("commit that writes nothing", x.commit(), 0);
        Checks.due("the sequence", x.count(8), 1);
        Checks.due("page 0", x.octet(0, 0), 0);
        Checks.put(x, "a", 2);
        x.back();
        Checks.due("commit behind back", x.commit(), 0);
        Checks.put(x, "a", 2);
        Checks.due("the write at which power goes was not used up", x.commit(), Checks.LOST);
    }

    /** 100 keys in 199 nodes, committed: 55 pages are free. 301 calls. */
    private static RadixPages of199Pages() {
        RadixPages x = new RadixPages();
        Checks.putBits(x, 100);
        x.commit();
        return x;
    }

    private static void asManyFreePages() {
        Checks.by("One for which there are not as many free pages as new nodes is FULL: not with just as many");
        RadixPages x = of199Pages();
        for (int i = 0; i < 26; i++) {
            Checks.put(x, Checks.bits(i), -1);
        }
        Checks.due("free pages", x.count(7), 55);
        Checks.due("new nodes", x.count(6), 55);
        Checks.due("commit", x.commit(), 56);
        Checks.due("the last page is the root's", x.count(9), 255);
        Checks.due("free pages", x.count(7), 55);
    }

    private static void notAsManyFreePages() {
        Checks.by("is FULL: it does nothing, the batch stays");
        RadixPages x = of199Pages();
        for (int i = 0; i < 26; i++) {
            Checks.put(x, Checks.bits(i), -1);
        }
        Checks.put(x, Checks.bits(0) + "a", -1);
        Checks.due("new nodes, one more than free pages", x.count(6), 56);
        Checks.due("commit", x.commit(), Checks.FULL);
        Checks.due("new nodes", x.count(6), 56);
        Checks.due("free pages", x.count(7), 55);
        Checks.due("the sequence", x.count(8), 1);
        Checks.due("the root's page", x.count(9), 0);
        Checks.due("the first free page", x.octet(201, 0), 0);
        Checks.due("the head's page", x.octet(0, 0), 0);
        Checks.due("a value of the batch", Checks.get(x, Checks.bits(25)), -1);
        Checks.due("back", x.back(), 56);
        Checks.due("the value before", x.get(), 25);
        Checks.put(x, Checks.bits(26), -1);
        Checks.due("a smaller batch", x.commit(), 9);
    }

    private static void valueOnThePage() {
        Checks.by("1 whether it has a value (1, 0); 2 to 9 that value (0 without), the highest byte first");
        long[] values = {0, -1, Long.MIN_VALUE + 1, Long.MAX_VALUE, 0x0102030405060708L};
        for (long value : values) {
            duePage("value " + value, () -> {
                RadixPages x = new RadixPages();
                Checks.put(x, "k", value);
                x.commit();
                return x;
            }, 2, sealed(row(1, value, "k")));
        }
        int[] without = row(1, null, "");
        without[23] = 2;
        without[24] = 0;
        without[25] = 1;
        without[28] = 2;
        without[29] = 3;
        duePage("a value that was removed", () -> {
            RadixPages x = committed(0, 2);
            Checks.put(x, "", -1);
            x.commit();
            Checks.remove(x, "");
            x.commit();
            return x;
        }, 4, sealed(without));
    }

    private static void prefixOnThePage() {
        Checks.by("10 how long its prefix is; 11 to 22 that, with 0s behind");
        for (String prefix : new String[] {"", Checks.text(0), Checks.text(255, 0, 255), "abcdefghijkl"}) {
            duePage("prefix of " + prefix.length(), () -> {
                RadixPages x = new RadixPages();
                Checks.put(x, prefix, 1);
                x.commit();
                return x;
            }, 2, sealed(row(1, 1L, prefix)));
        }
        duePage("what a cut left", () -> {
            RadixPages x = new RadixPages();
            Checks.put(x, "abcdefghijkl", 1);
            x.commit();
            Checks.put(x, "abcdefgh", 2);
            x.commit();
            return x;
        }, 3, sealed(row(1, 1L, "jkl")));
    }

    /** Children by 0, 1, .. and by 255, so many in all, on pages 2, 3, ..; the root is written last. */
    private static RadixPages wide(int children) {
        RadixPages x = new RadixPages();
        Checks.putBytes(x, 0, children - 1);
        Checks.put(x, Checks.text(255), 255);
        Checks.due("commit", x.commit(), children + 2);
        return x;
    }

    private static int byteOf(int place, int children) {
        return place == children - 1 ? 255 : place;
    }

    private static void listedChildren() {
        Checks.by("for formats 1 and 2 the bytes of its children, rising, in as many bytes as the format has children, "
            + "then in as many their pages");
        for (int children : new int[] {2, 3, 4, 5, 15, 16}) {
            int format = children <= 4 ? 1 : 2;
            int[] want = row(format, null, "");
            want[23] = children;
            for (int place = 0; place < children; place++) {
                want[24 + place] = byteOf(place, children);
                want[24 + (format == 1 ? 4 : 16) + place] = 2 + place;
            }
            duePage(children + " children", () -> wide(children), 2 + children, sealed(want));
        }
    }

    private static void placedChildren() {
        Checks.by("for format 3 256 bytes, by a child's byte its place among the children, from 1 on, "
            + "and then 48 with their pages by these places (by bytes rising)");
        for (int children : new int[] {17, 48}) {
            int[] want = row(3, null, "");
            want[23] = children;
            for (int place = 0; place < children; place++) {
                want[24 + byteOf(place, children)] = place + 1;
                want[280 + place] = 2 + place;
            }
            duePage(children + " children", () -> wide(children), 2 + children, sealed(want));
        }
    }

    private static void childrenByByte() {
        Checks.by("for format 4 256 bytes, by a child's byte its page");
        for (int children : new int[] {49, 80}) {
            int[] want = row(4, null, "");
            want[23] = children;
            for (int place = 0; place < children; place++) {
                want[24 + byteOf(place, children)] = 2 + place;
            }
            duePage(children + " children", () -> wide(children), 2 + children, sealed(want));
        }
        RadixPages x = wide(150);
        Checks.due("150 children on the page", x.octet(152, 23), 150);
        Checks.due("the page of the last one", x.octet(152, 24 + 255), 151);
        Checks.due("the page of the one before", x.octet(152, 24 + 148), 150);
        Checks.due("150 keys in the head", x.octet(1, 11), 150);
        x.halt();
        Checks.due("start", x.start(), 1);
        Checks.dueCounts(x, 150, 151, 150, 0, 0, 1);
    }

    private static void notUsedIsZero() {
        Checks.by("what is not used is 0: on a page that was used before, too");
        int[] shrunk = row(2, null, "");
        shrunk[23] = 4;
        for (int place = 0; place < 4; place++) {
            shrunk[24 + place] = place;
            shrunk[40 + place] = 2 + place;
        }
        duePage("a node that has fewer children", () -> {
            RadixPages x = committed(0, 5);
            Checks.remove(x, Checks.text(4));
            x.commit();
            return x;
        }, 8, sealed(shrunk));
        duePage("a leaf where a root of format 3 was", () -> {
            RadixPages x = committed(0, 17);
            Checks.put(x, Checks.text(0), -1);
            x.commit();
            Checks.put(x, Checks.text(1), -1);
            Checks.put(x, Checks.text(2), -1);
            x.commit();
            return x;
        }, 19, sealed(row(1, -1L, "")));
        duePage("a leaf on a page that was torn and poked", () -> {
            RadixPages x = new RadixPages();
            x.poke(2, 400, 77);
            x.poke(2, 511, 77);
            Checks.put(x, "abc", 1);
            x.power(0, 100);
            Checks.due("commit", x.commit(), Checks.LOST);
            x.start();
            Checks.put(x, "z", 2);
            x.commit();
            return x;
        }, 2, sealed(row(1, 2L, "z")));
    }

    private static void theSum() {
        Checks.by("the SUM of bytes 0 to 503: s is 0; for each byte b s becomes (s exclusive-or b) * 0x100000001B3 "
            + "turned left by 9 (64 bits, running over); the highest byte first");
        RadixPages x = new RadixPages();
        Checks.put(x, "a", 7);
        x.commit();
        dueSum(x, 2, 0xCA4FD614F18FCCE8L);
        dueSum(x, 1, 0xF484CF5356AEF82DL);
        RadixPages y = new RadixPages();
        Checks.put(y, "a", 7);
        Checks.remove(y, "a");
        y.commit();
        dueSum(y, 2, 0xDAC0D87453F2BE4FL);
        dueSum(y, 1, 0xDFFF8FFC3BDA3909L);
    }

    /** The sums here were reckoned by another program. */
    private static void dueSum(RadixPages x, int page, long want) {
        for (int i = 0; i < 8; i++) {
            Checks.due("octet(" + page + ", " + (504 + i) + ")", x.octet(page, 504 + i), want >>> 56 - 8 * i & 255);
        }
    }

    private static void theHead() {
        Checks.by("A HEAD: byte 0 is 1; 1 to 8 the sequence, 9 the root's page, 10 to 11 how many keys there are, "
            + "highest bytes first; then 0s; the SUM likewise.");
        int[] want = new int[Checks.PAGE_BYTES];
        want[0] = 1;
        want[8] = 3;
        want[9] = 4;
        want[11] = 3;
        duePage("the third commit's, on a page that was used and poked", () -> {
            RadixPages x = committed(0, 2);
            x.poke(1, 12, 9);
            x.poke(1, 503, 9);
            x.poke(1, 1, 128);
            Checks.putBytes(x, 2, 4);
            x.commit();
            Checks.remove(x, Checks.text(0));
            x.commit();
            return x;
        }, 1, sealed(want));
        RadixPages great = new Layout().node(2, 1, "a", 1L).head(0, 0x2FAF0800L, 2, 1).due("a great sequence", 800000000);
        great.type('b', 1);
        great.put(1);
        great.commit();
        int[] bytes = {1, 0, 0, 0, 0, 0x2F, 0xAF, 0x08, 0x01, great.count(9), 0, 2, 0};
        for (int i = 0; i < bytes.length; i++) {
            Checks.due("octet(1, " + i + ")", great.octet(1, i), bytes[i]);
        }
    }
}
