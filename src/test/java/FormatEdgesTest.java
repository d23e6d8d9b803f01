/** The sentences of FORMAT, PUT and REMOVED that name an edge, each with a test of its own. */
final class FormatEdgesTest {
    public static void main(String[] args) {
        mostChildren();
        newOnesAreOfFormat1();
        aChildMore();
        noChildMore();
        fewerChildren();
        onlyOneFormatLess();
        onlyWhenAChildIsLost();
        cutInTwo();
        putTogetherWithItsOnlyChild();
        putTogetherWithItsParent();
        partsFromAPrefix();
        endsInAPrefix();
        valueOfANode();
        newChild();
        treeWithoutKeys();
        losesItsValue();
        goesAndItsParentLosesIt();
        onePrefix();
        rootIsPutTogether();
        rootWithoutKeys();
        Checks.end();
    }

    private static RadixPages withChildren(int children) {
        RadixPages x = new RadixPages();
        Checks.putBytes(x, 0, children);
        return x;
    }

    private static void mostChildren() {
        Checks.by("A node is of a FORMAT: 1, 2, 3, 4, for 4, 16, 48, 256 children at most");
        int[] children = {2, 4, 5, 16, 17, 48, 49, 150};
        int[] formats = {1, 1, 2, 2, 3, 3, 4, 4};
        for (int i = 0; i < children.length; i++) {
            RadixPages x = withChildren(children[i]);
            Checks.dueNode(x, 0, formats[i], children[i]);
        }
    }

    private static void newOnesAreOfFormat1() {
        Checks.by("New ones are of format 1.");
        RadixPages x = withChildren(17);
        Checks.due("format 1", x.count(2), 17);
        Checks.due("a new child of a node of format 3", x.node(17, 0), 1);
        Checks.put(x, Checks.text(3, 4, 5), 1);
        Checks.due("a new child of a child", x.node(5, 0), 1);
        Checks.put(x, Checks.text(3, 4), 1);
        Checks.due("what comes above a node", x.node(5, 0), 1);
        Checks.due("nodes", x.count(1), 20);
        Checks.due("format 1", x.count(2), 19);
    }

    private static void aChildMore() {
        Checks.by("One that gets a child more than its format has is of the next one then.");
        int[] most = {4, 16, 48};
        for (int i = 0; i < most.length; i++) {
            RadixPages x = withChildren(most[i]);
            Checks.dueNode(x, 0, i + 1, most[i]);
            Checks.put(x, Checks.text(255), 1);
            Checks.dueNode(x, 0, i + 2, most[i] + 1);
            Checks.due("nodes of that format", x.count(i + 3), 1);
        }
    }

    private static void noChildMore() {
        Checks.by("One that gets a child more than its format has is of the next one then: not one that gets none");
        RadixPages x = withChildren(4);
        Checks.put(x, "", 1);
        Checks.dueNode(x, 0, 1, 4, 0, 1);
        Checks.put(x, Checks.text(3, 7, 7), 1);
        Checks.put(x, Checks.text(3, 7, 9), 1);
        Checks.put(x, Checks.text(3), 9);
        Checks.dueNode(x, 0, 1, 4, 0, 1);
        Checks.dueNode(x, 4, 1, 1, 0, 1);
        Checks.dueNode(x, 5, 1, 2, 0, 0);
    }

    private static void fewerChildren() {
        Checks.by("When one lost a child and has 3 or fewer (format 2), 12 or fewer (3), 40 or fewer (4), "
            + "it is of the format one less.");
        int[] grown = {5, 17, 49};
        int[] few = {3, 12, 40};
        for (int i = 0; i < few.length; i++) {
            RadixPages x = withChildren(grown[i]);
            for (int left = grown[i] - 1; left > few[i]; left--) {
                Checks.remove(x, Checks.text(left));
                Checks.dueNode(x, 0, i + 2, left);
            }
            Checks.remove(x, Checks.text(few[i]));
            Checks.dueNode(x, 0, i + 1, few[i]);
        }
    }

    /** A root of a format with children by 0, 1, .., each a leaf; page 2 is the root's. */
    private static RadixPages laid(int format, int children) {
        int[] bytesAndPages = new int[2 * children];
        Layout layout = new Layout().head(1, 1, 2, children);
        for (int b = 0; b < children; b++) {
            bytesAndPages[2 * b] = b;
            bytesAndPages[2 * b + 1] = 3 + b;
            layout.node(3 + b, 1, "", 1L);
        }
        return layout.node(2, format, "", null, bytesAndPages).due("format " + format, 1);
    }

    private static void onlyOneFormatLess() {
        Checks.by("it is of the format one less: of no other, however few children it has");
        RadixPages x = laid(4, 6);
        for (int left = 5; left >= 2; left--) {
            Checks.remove(x, Checks.text(left));
            Checks.dueNode(x, 0, left == 5 ? 3 : left == 4 ? 2 : 1, left);
        }
        RadixPages y = laid(3, 13);
        Checks.remove(y, Checks.text(12));
        Checks.dueNode(y, 0, 2, 12);
        Checks.remove(y, Checks.text(11));
        Checks.dueNode(y, 0, 2, 11);
    }

    private static void onlyWhenAChildIsLost() {
        Checks.by("When one lost a child and has 3 or fewer (format 2): only then");
        RadixPages x = laid(2, 2);
        Checks.put(x, Checks.text(7), 1);
        Checks.dueNode(x, 0, 2, 3);
        Checks.put(x, "", 1);
        Checks.remove(x, "");
        Checks.dueNode(x, 0, 2, 3);
        Checks.put(x, Checks.text(7, 7), 1);
        Checks.remove(x, Checks.text(7, 7));
        Checks.dueNode(x, 0, 2, 3);
        // the child by 7 is put together with a child of its own: the root keeps it
        Checks.put(x, Checks.text(7, 8), 1);
        Checks.remove(x, Checks.text(7));
        Checks.dueNode(x, 0, 2, 3);
        Checks.dueNode(x, 3, 1, 0, 1, 1);
        Checks.remove(x, Checks.text(7, 8));
        Checks.dueNode(x, 0, 1, 2);
    }

    private static void cutInTwo() {
        Checks.by("cut in two: the part with its children and value does, the part above is new");
        int[] children = {5, 17, 49};
        for (int i = 0; i < children.length; i++) {
            RadixPages x = new RadixPages();
            for (int b = 0; b < children[i]; b++) {
                Checks.put(x, "pqr" + (char) b, b);
            }
            Checks.put(x, "pqr", 99);
            Checks.dueNode(x, 0, i + 2, children[i], 3, 1);
            Checks.put(x, "pz", 1);
            Checks.dueNode(x, 0, 1, 2, 1, 0, 0, 0);
            Checks.dueNode(x, 1, i + 2, children[i], 1, 1, 0, 2);
            Checks.put(x, "pq", 2);
            Checks.dueNode(x, 1, 1, 1, 0, 1, 0, 2);
            Checks.dueNode(x, 2, i + 2, children[i], 0, 1, 0, 3);
            Checks.due("its value", Checks.get(x, "pqr"), 99);
            Checks.due("a child's value", Checks.get(x, "pqr" + (char) 2), 2);
        }
        for (int format = 2; format <= 4; format++) {
            RadixPages x = new Layout().node(2, format, "pqr", null, 6, 3, 7, 4).node(3, 1, "", 1L).node(4, 1, "", 1L)
                .head(1, 1, 2, 2).due("two children in format " + format, 1);
            Checks.put(x, "pz", 1);
            Checks.dueNode(x, 0, 1, 2, 1, 0);
            Checks.dueNode(x, 1, format, 2, 1, 0);
            Checks.put(x, "pq", 1);
            Checks.dueNode(x, 1, 1, 1, 0, 1);
            Checks.dueNode(x, 2, format, 2, 0, 0);
        }
    }

    private static void putTogetherWithItsOnlyChild() {
        Checks.by("put together: the one with the children does (keep its format): with its only child");
        int[] children = {5, 17, 49};
        for (int i = 0; i < children.length; i++) {
            RadixPages x = new RadixPages();
            Checks.put(x, "p", 1);
            for (int b = 0; b < children[i]; b++) {
                Checks.put(x, "pqr" + (char) b, b);
            }
            Checks.dueNode(x, 0, 1, 1, 1, 1);
            Checks.dueNode(x, 1, i + 2, children[i], 1, 0);
            Checks.remove(x, "p");
            Checks.dueNode(x, 0, i + 2, children[i], 3, 0);
        }
        Layout upper = new Layout().node(2, 4, "", 1L, 5, 3).node(3, 2, "", null, 6, 4, 7, 5)
            .node(4, 1, "", 1L).node(5, 1, "", 1L).head(1, 1, 2, 3);
        RadixPages x = upper.due("a parent of format 4", 1);
        Checks.remove(x, "");
        Checks.dueNode(x, 0, 2, 2, 1, 0);
    }

    private static void putTogetherWithItsParent() {
        Checks.by("put together: the one with the children does (keep its format): with its parent");
        RadixPages x = new RadixPages();
        for (int b = 0; b < 5; b++) {
            Checks.put(x, "pa" + (char) b, b);
        }
        Checks.put(x, "pb", 1);
        Checks.dueNode(x, 0, 1, 2, 1, 0);
        Checks.dueNode(x, 1, 2, 5, 0, 0);
        Checks.remove(x, "pb");
        Checks.dueNode(x, 0, 2, 5, 2, 0);
        Layout leaf = new Layout().node(2, 3, "", null, 5, 3, 6, 4).node(3, 4, "z", 7L).node(4, 1, "", 1L).head(1, 1, 2, 2);
        RadixPages y = leaf.due("a leaf of format 4", 1);
        Checks.remove(y, Checks.text(6));
        Checks.dueNode(y, 0, 4, 0, 2, 1);
        Checks.due("its value", Checks.get(y, Checks.text(5, 'z')), 7);
    }

    private static void partsFromAPrefix() {
        Checks.by("where it parts from a node's prefix, that node is cut in two: "
            + "above it comes a new node with what both have in common as its prefix");
        for (int at = 0; at < 12; at++) {
            RadixPages x = new RadixPages();
            Checks.put(x, "abcdefghijkl", 1);
            Checks.due("put that parts at " + at, Checks.put(x, "abcdefghijkl".substring(0, at) + "z", 2), 1);
            Checks.dueNode(x, 0, 1, 2, at, 0, 0, 0);
            Checks.dueNode(x, 1, 1, 0, 11 - at, 1, 0, at + 1);
            Checks.dueNode(x, 2, 1, 0, 0, 1, 0, at + 1);
            Checks.due("its value", x.get(), 2);
            Checks.due("the other value", Checks.get(x, "abcdefghijkl"), 1);
        }
    }

    private static void endsInAPrefix() {
        Checks.by("(and, as its value, the new one's, if the key ends there)");
        for (int at = 0; at < 12; at++) {
            RadixPages x = new RadixPages();
            Checks.put(x, "abcdefghijkl", 1);
            Checks.due("put that ends at " + at, Checks.put(x, "abcdefghijkl".substring(0, at), 2), 1);
            Checks.due("nodes", x.count(1), 2);
            Checks.dueNode(x, 0, 1, 1, at, 1, 0, 0);
            Checks.dueNode(x, 1, 1, 0, 11 - at, 1, 0, at + 1);
            Checks.due("its value", x.get(), 2);
            Checks.due("the other value", Checks.get(x, "abcdefghijkl"), 1);
        }
    }

    private static void valueOfANode() {
        Checks.by("else it comes into a node as its value");
        RadixPages x = new RadixPages();
        Checks.put(x, "ab", 1);
        Checks.put(x, "ac", 2);
        Checks.dueNode(x, 0, 1, 2, 1, 0);
        Checks.due("put", Checks.put(x, "a", 3), 1);
        Checks.due("nodes", x.count(1), 3);
        Checks.dueNode(x, 0, 1, 2, 1, 1);
        Checks.due("get", x.get(), 3);
    }

    private static void newChild() {
        Checks.by("or as a new child, with all that is left behind its byte as prefix");
        RadixPages x = new RadixPages();
        Checks.put(x, "", 1);
        Checks.put(x, "abcdefghijkl", 2);
        Checks.dueNode(x, 1, 1, 0, 11, 1, 0, 1);
        Checks.put(x, "b", 3);
        Checks.dueNode(x, 2, 1, 0, 0, 1, 0, 1);
        Checks.put(x, Checks.text(0, 0), 4);
        Checks.dueNode(x, 1, 1, 0, 1, 1, 0, 1);
        Checks.put(x, Checks.text(255, 255, 255), 5);
        Checks.dueNode(x, 4, 1, 0, 2, 1, 0, 1);
        Checks.put(x, "bc", 6);
        Checks.dueNode(x, 4, 1, 0, 0, 1, 0, 2);
    }

    private static void treeWithoutKeys() {
        Checks.by("(Into a tree without keys: the root gets it as its prefix, with the value.)");
        for (String key : new String[] {"", "a", "abcdefghijkl"}) {
            RadixPages x = new RadixPages();
            for (int again = 0; again < 2; again++) {
                Checks.due("put", Checks.put(x, key, 7), 1);
                Checks.due("nodes", x.count(1), 1);
                Checks.dueNode(x, 0, 1, 0, key.length(), 1, 0, 0);
                Checks.due("get", x.get(), 7);
                x.remove();
            }
        }
    }

    private static void losesItsValue() {
        Checks.by("REMOVED, a node loses its value");
        RadixPages x = new RadixPages();
        Checks.put(x, "a", 1);
        Checks.put(x, "ab", 2);
        Checks.put(x, "ac", 3);
        Checks.due("remove", Checks.remove(x, "a"), 1);
        Checks.due("nodes", x.count(1), 3);
        Checks.dueNode(x, 0, 1, 2, 1, 0);
        Checks.due("get", x.get(), Checks.NO);
        Checks.due("remove again", x.remove(), 0);
    }

    private static void goesAndItsParentLosesIt() {
        Checks.by("if it has no child then, it goes (unless it is the root) and its parent loses that child");
        RadixPages x = new RadixPages();
        Checks.put(x, "a", 1);
        Checks.put(x, "ab", 2);
        Checks.put(x, "ac", 3);
        Checks.remove(x, "ac");
        Checks.dueNode(x, 0, 1, 1, 1, 1);
        Checks.due("nodes with a value and one child", x.count(1), 2);
        Checks.remove(x, "ab");
        Checks.dueNode(x, 0, 1, 0, 1, 1);
        Checks.due("a node with a value and no child", x.count(1), 1);
        RadixPages y = withChildren(3);
        Checks.remove(y, Checks.text(1));
        Checks.dueNode(y, 0, 1, 2, 0, 0);
        Checks.due("a node without a value and with two children", y.count(1), 3);
        Checks.due("the first stays", Checks.get(y, Checks.text(0)), 0);
        Checks.due("the last stays", Checks.get(y, Checks.text(2)), 2);
    }

    private static void onePrefix() {
        Checks.by("a node that is left without a value and with one child is put together with that one: "
            + "its prefix, the child's byte, and the child's prefix are one prefix");
        for (int at = 0; at < 12; at++) {
            RadixPages x = new RadixPages();
            Checks.put(x, "abcdefghijkl", 1);
            Checks.put(x, "abcdefghijkl".substring(0, at), 2);
            Checks.due("remove of its value", x.remove(), 1);
            dueWhole(x);
            Checks.put(x, "abcdefghijkl".substring(0, at) + "z", 2);
            Checks.due("remove of its other child", x.remove(), 1);
            dueWhole(x);
        }
        RadixPages y = new RadixPages();
        Checks.put(y, "q", 1);
        Checks.put(y, "abcxy", 2);
        Checks.put(y, "abcxz", 3);
        Checks.put(y, "ab", 4);
        Checks.remove(y, "ab");
        Checks.dueNode(y, 1, 1, 2, 3, 0, 0, 1);
        Checks.due("a child below", Checks.get(y, "abcxz"), 3);
    }

    private static void dueWhole(RadixPages x) {
        Checks.due("nodes", x.count(1), 1);
        Checks.dueNode(x, 0, 1, 0, 12, 1, 0, 0);
        Checks.due("nth(0)", x.nth(0), 12);
        Checks.due("its key", Checks.tapeOf(x), "abcdefghijkl");
        Checks.due("its value", x.get(), 1);
    }

    private static void rootIsPutTogether() {
        Checks.by("(That goes for the root, too");
        RadixPages x = new RadixPages();
        Checks.put(x, "", 1);
        Checks.put(x, "ab", 2);
        Checks.put(x, "ac", 3);
        x.commit();
        Checks.due("remove", Checks.remove(x, ""), 1);
        Checks.due("nodes", x.count(1), 3);
        Checks.dueNode(x, 0, 1, 2, 1, 0, 0, 0);
        Checks.due("new", x.count(6), 1);
        Checks.due("the root's page", x.count(9), 0);
        Checks.due("ac", Checks.get(x, "ac"), 3);
        Checks.due("commit", x.commit(), 2);
        Checks.remove(x, "ab");
        Checks.dueNode(x, 0, 1, 0, 2, 1, 0, 0);
        Checks.due("nodes", x.count(1), 1);
        Checks.due("new", x.count(6), 1);
    }

    private static void rootWithoutKeys() {
        Checks.by("but a root without children and value has no prefix, and is of format 1.)");
        RadixPages x = new RadixPages();
        Checks.put(x, "abc", 1);
        Checks.remove(x, "abc");
        Checks.dueNode(x, 0, 1, 0, 0, 0, 0, 0);
        for (int format = 2; format <= 4; format++) {
            RadixPages y = new Layout().node(2, format, "ab", 5L).head(1, 1, 2, 1).due("a lone root", 1);
            Checks.dueNode(y, 0, format, 0, 2, 1, 2, 0);
            Checks.due("remove", Checks.remove(y, "ab"), 1);
            Checks.dueNode(y, 0, 1, 0, 0, 0, 0, 0);
            Checks.due("commit", y.commit(), 2);
            y.halt();
            Checks.due("start", y.start(), 2);
        }
    }
}
