/** The sentences of KEYS and THE TREE that name an edge, each with a test of its own. */
final class KeyEdgesTest {
    private static final String TWELVE_LOW = Checks.text(0, 0, 0, 0, 0, 0, 0, 0, 0, 0, 0, 0);
    private static final String TWELVE_HIGH = TWELVE_LOW.replace((char) 0, (char) 255);

    public static void main(String[] args) {
        keyOfNoBytes();
        keysOfTwelveBytes();
        bytesOfKeys();
        orderByBytes();
        orderByLength();
        valuesAreLongs();
        childBehindTwoHundred();
        cutBehindTwoHundred();
        cutOfTwoNodes();
        noNodeMoreWhenFull();
        prefixLengths();
        whereKeysAreFound();
        oneNodeWithoutKeys();
        nodesHaveReasons();
        Checks.end();
    }

    private static void keyOfNoBytes() {
        Checks.by("KEYS are rows of 0 to 12 bytes: of none");
        RadixPages x = new RadixPages();
        Checks.due("get", x.get(), Checks.NO);
        Checks.due("put", x.put(5), 1);
        Checks.due("get", x.get(), 5);
        Checks.dueNode(x, 0, 1, 0, 0, 1, 0, 0);
        Checks.due("put of another key", Checks.put(x, "a", 6), 1);
        Checks.due("nth(0)", x.nth(0), 0);
        Checks.due("get of the key of no bytes", x.get(), 5);
        Checks.due("remove", x.remove(), 1);
        Checks.due("remove again", x.remove(), 0);
        Checks.due("the other key", Checks.get(x, "a"), 6);
    }

    private static void keysOfTwelveBytes() {
        Checks.by("KEYS are rows of 0 to 12 bytes: of 12, and none of 13");
        for (String key : new String[] {TWELVE_LOW, TWELVE_HIGH, "abcdefghijkl"}) {
            RadixPages x = new RadixPages();
            Checks.due("put of 12 bytes", Checks.put(x, key, 1), 1);
            Checks.due("put of 11 bytes", Checks.put(x, key.substring(1), 2), 1);
            Checks.due("put of 13 bytes", Checks.put(x, key + key.charAt(0), 3), Checks.NONE);
            Checks.due("keys", x.count(0), 2);
            Checks.due("get of 12 bytes", Checks.get(x, key), 1);
            Checks.due("get of 11 bytes", Checks.get(x, key.substring(1)), 2);
            Checks.due("get of 13 bytes", Checks.get(x, key + key.charAt(0)), Checks.NO);
        }
    }

    private static void bytesOfKeys() {
        Checks.by("rows of 0 to 12 bytes 0 .. 255");
        int[] bytes = {0, 1, 127, 128, 254, 255};
        RadixPages x = new RadixPages();
        for (int b : bytes) {
            Checks.due("put of " + b, Checks.put(x, Checks.text(b, b), b), 1);
            Checks.due("its first byte", x.tapeAt(0), b);
        }
        for (int i = 0; i < bytes.length; i++) {
            Checks.due("get of " + bytes[i], Checks.get(x, Checks.text(bytes[i], bytes[i])), bytes[i]);
            Checks.due("nth(" + i + ")", x.nth(i), 2);
            Checks.due("a child's byte", x.tapeAt(0), bytes[i]);
            Checks.due("a byte of a prefix", x.tapeAt(1), bytes[i]);
        }
    }

    private static void orderByBytes() {
        Checks.by("one comes before another one by its first byte that differs");
        String[] rising = {Checks.text(0, 255), Checks.text(1, 0), Checks.text(127, 255, 255), Checks.text(128),
            Checks.text(200, 9, 200), Checks.text(200, 10, 0), Checks.text(255, 0)};
        dueOrder(rising);
        RadixPages x = new RadixPages();
        for (String key : rising) {
            Checks.put(x, key, 1);
        }
        Checks.due("before a key that is not there, less in a prefix", Checks.before(x, Checks.text(0, 254)), 0);
        Checks.due("more in a prefix", Checks.before(x, Checks.text(1, 1)), 2);
        Checks.due("between children", Checks.before(x, Checks.text(129)), 4);
        Checks.due("behind all", Checks.before(x, Checks.text(255, 1)), 7);
    }

    private static void orderByLength() {
        Checks.by("or if the other one goes on behind it");
        dueOrder("", Checks.text(0), Checks.text(0, 0), TWELVE_LOW, "a", "aa", "aaa", "ab", TWELVE_HIGH);
    }

    private static void dueOrder(String... rising) {
        RadixPages x = new RadixPages();
        for (int i = 0; i < rising.length; i++) {
            // every key once, but not in their order
            int at = i * 5 % rising.length;
            Checks.put(x, rising[at], at);
        }
        Checks.due("keys", x.count(0), rising.length);
        for (int i = 0; i < rising.length; i++) {
            Checks.due("nth(" + i + ")", x.nth(i), rising[i].length());
            Checks.due("its value", x.get(), i);
            Checks.due("before it", x.before(), i);
        }
    }

    private static void valuesAreLongs() {
        Checks.by("Each has a VALUE, a long.");
        long[] values = {Long.MIN_VALUE + 1, -1, 0, 1, 0x80000000L, 0x0102030405060708L, Long.MAX_VALUE};
        RadixPages x = new RadixPages();
        for (int i = 0; i < values.length; i++) {
            Checks.due("put of " + values[i], Checks.put(x, Checks.text(i), values[i]), 1);
            Checks.due("get of " + values[i], x.get(), values[i]);
        }
        x.commit();
        x.halt();
        Checks.due("start", x.start(), 1);
        for (int i = 0; i < values.length; i++) {
            Checks.due("get behind a start", Checks.get(x, Checks.text(i)), values[i]);
        }
    }

    /** 100 keys of seven bytes in 199 nodes; 300 calls. */
    private static RadixPages of199Nodes() {
        RadixPages x = new RadixPages();
        Checks.putBits(x, 100);
        Checks.due("nodes", x.count(1), 199);
        return x;
    }

    private static void childBehindTwoHundred() {
        Checks.by("THE TREE has NODES, 200 at most: a new child");
        RadixPages x = of199Nodes();
        Checks.due("the 200th", Checks.put(x, Checks.bits(1) + "a", 1), 1);
        Checks.due("nodes", x.count(1), 200);
        Checks.due("a 201st", Checks.put(x, Checks.bits(2) + "a", 1), Checks.FULL);
        Checks.due("a 201st by the root", Checks.put(x, "z", 1), Checks.FULL);
        Checks.due("nodes", x.count(1), 200);
        Checks.due("remove", Checks.remove(x, Checks.bits(1) + "a"), 1);
        Checks.due("the other one", Checks.put(x, Checks.bits(2) + "a", 1), 1);
        Checks.due("nodes", x.count(1), 200);
    }

    private static void cutBehindTwoHundred() {
        Checks.by("THE TREE has NODES, 200 at most: a node cut in two where the key ends");
        RadixPages x = of199Nodes();
        Checks.put(x, Checks.bits(1) + "abc", 1);
        Checks.due("nodes", x.count(1), 200);
        Checks.due("a 201st", Checks.put(x, Checks.bits(1) + "ab", 1), Checks.FULL);
        Checks.due("get", x.get(), Checks.NO);
        Checks.due("nodes", x.count(1), 200);
        Checks.due("a leaf goes", Checks.remove(x, Checks.bits(99)), 1);
        Checks.due("nodes", x.count(1), 198);
        Checks.due("a child more", Checks.put(x, Checks.bits(5) + "a", 1), 1);
        Checks.due("the 200th", Checks.put(x, Checks.bits(1) + "ab", 1), 1);
        Checks.due("nodes", x.count(1), 200);
    }

    private static void cutOfTwoNodes() {
        Checks.by("THE TREE has NODES, 200 at most: a node cut in two and a new child");
        RadixPages x = of199Nodes();
        Checks.due("a 200th and a 201st", Checks.put(x, Checks.bits(100), 1), Checks.FULL);
        Checks.due("nodes", x.count(1), 199);
        Checks.due("keys", x.count(0), 100);
        Checks.due("new nodes", x.count(6), 199);
        Checks.due("a leaf goes", Checks.remove(x, Checks.bits(98)), 1);
        Checks.due("nodes", x.count(1), 197);
        Checks.due("a child more", Checks.put(x, Checks.bits(5) + "a", 1), 1);
        Checks.due("the 199th and the 200th", Checks.put(x, Checks.bits(100), 1), 1);
        Checks.due("nodes", x.count(1), 200);
    }

    private static void noNodeMoreWhenFull() {
        Checks.by("FULL: there would be more than 200 nodes: not when there would be no node more");
        RadixPages x = of199Nodes();
        Checks.put(x, Checks.bits(1) + "a", 1);
        Checks.due("nodes", x.count(1), 200);
        Checks.due("a value for a node without one", Checks.put(x, "", 7), 1);
        Checks.due("get", x.get(), 7);
        Checks.due("another value", x.put(8), 0);
        Checks.due("the same value", x.put(8), 0);
        Checks.due("get", x.get(), 8);
        Checks.due("nodes", x.count(1), 200);
    }

    private static void prefixLengths() {
        Checks.by("each has a PREFIX of 0 to 12 bytes");
        RadixPages x = new RadixPages();
        Checks.put(x, "abcdefghijkl", 1);
        Checks.due("of 12 bytes", x.node(0, 2), 12);
        Checks.put(x, "", 2);
        Checks.due("the root's of 0 bytes", x.node(0, 2), 0);
        Checks.due("a child's of 11 bytes", x.node(1, 2), 11);
        Checks.put(x, "b", 3);
        Checks.due("a child's of 0 bytes", x.node(2, 2), 0);
        Checks.remove(x, "");
        Checks.remove(x, "b");
        Checks.due("of 12 bytes again", x.node(0, 2), 12);
        Checks.due("get", Checks.get(x, "abcdefghijkl"), 1);
    }

    private static void whereKeysAreFound() {
        Checks.by("then it is at its end (the node's value is its own), or its next byte is that of the child");
        RadixPages x = new RadixPages();
        Checks.put(x, "abcde", 1);
        Checks.put(x, "abxyz", 2);
        Checks.put(x, "abcdefg", 3);
        String[] none = {"", "a", "ab", "aa", "b", "abc", "abcd", "abd", "abcdd", "abcdef", "abcdeg", "abcdefgh", "abx",
            "abxyzz"};
        for (String key : none) {
            Checks.due("get of " + key, Checks.get(x, key), Checks.NO);
            Checks.due("remove of " + key, x.remove(), 0);
        }
        Checks.due("abcde", Checks.get(x, "abcde"), 1);
        Checks.due("abxyz", Checks.get(x, "abxyz"), 2);
        Checks.due("abcdefg", Checks.get(x, "abcdefg"), 3);
    }

    private static void oneNodeWithoutKeys() {
        Checks.by("There is just one node, the root, without children and value, when there are no keys");
        RadixPages x = new RadixPages();
        Checks.dueCounts(x, 0, 1, 1, 0, 0, 0);
        Checks.dueNode(x, 0, 1, 0, 0, 0, 0, 0);
        Checks.due("node(1, 0)", x.node(1, 0), Checks.NONE);
        Checks.putBytes(x, 0, 20);
        for (int b = 0; b < 20; b++) {
            Checks.due("remove", Checks.remove(x, Checks.text(b)), 1);
        }
        Checks.dueCounts(x, 0, 1, 1, 0, 0, 0);
        Checks.dueNode(x, 0, 1, 0, 0, 0, 0, 0);
        Checks.due("node(1, 0)", x.node(1, 0), Checks.NONE);
        x.halt();
        x.start();
        Checks.dueCounts(x, 0, 1, 1, 0, 0, 0);
        Checks.dueNode(x, 0, 1, 0, 0, 0, 0, 0);
    }

    private static void nodesHaveReasons() {
        Checks.by("else each node has a value or two children at least, and prefixes are as long as that lets them");
        RadixPages x = new RadixPages();
        String[] keys = {"abcd", "abce", "abcdxy", "abcdxz", "q", "qrs", ""};
        for (String key : keys) {
            Checks.put(x, key, 1);
            dueReasons(x);
        }
        Checks.due("nodes", x.count(1), 9);
        for (String key : keys) {
            Checks.remove(x, key);
            dueReasons(x);
        }
        Checks.due("nodes", x.count(1), 1);
    }

    private static void dueReasons(RadixPages x) {
        int nodes = x.count(1);
        for (int n = 0; n < nodes && x.count(0) > 0; n++) {
            boolean reason = x.node(n, 3) == 1 || x.node(n, 1) >= 2;
            Checks.due("node " + n + " has a value or two children", reason ? 1 : 0, 1);
        }
    }
}
