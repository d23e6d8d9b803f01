/** Promises 13 and 14, count and node, and with them how nodes grow, shrink, are cut and put together. */
final class ShapeTest {
    public static void main(String[] args) {
        growing();
        shrinking();
        cutting();
        joining();
        rootWithoutKeys();
        keepingFormats();
        counting();
        newNodes();
        wrongInputs();
        Checks.end();
    }

    private static void growing() {
        RadixPages x = new RadixPages();
        for (int b = 1; b <= 60; b++) {
            Checks.put(x, Checks.text(b * 4), b);
            int children = b == 1 ? 0 : b;
            Checks.due("children of " + b, x.node(0, 1), children);
            Checks.due("format of " + b, x.node(0, 0), b <= 4 ? 1 : b <= 16 ? 2 : b <= 48 ? 3 : 4);
        }
        Checks.due("nodes of format 1", x.count(2), 60);
        Checks.due("nodes of format 4", x.count(5), 1);
    }

    private static void shrinking() {
        RadixPages x = new RadixPages();
        for (int b = 0; b < 49; b++) {
            Checks.put(x, Checks.text(b), b);
        }
        for (int left = 48; left >= 2; left--) {
            Checks.remove(x, Checks.text(left));
            Checks.due("children", x.node(0, 1), left);
            Checks.due("format of " + left, x.node(0, 0), left > 40 ? 4 : left > 12 ? 3 : left > 3 ? 2 : 1);
        }
        Checks.remove(x, Checks.text(1));
        Checks.dueNode(x, 0, 1, 0, 1, 1, 0, 0);
        Checks.due("nodes", x.count(1), 1);
    }

    private static void cutting() {
        RadixPages x = new RadixPages();
        Checks.put(x, "abcdef", 1);
        Checks.dueNode(x, 0, 1, 0, 6, 1, 0, 0);
        Checks.put(x, "abcxyz", 2);
        Checks.dueNode(x, 0, 1, 2, 3, 0, 0, 0);
        Checks.dueNode(x, 1, 1, 0, 2, 1, 0, 4);
        Checks.dueNode(x, 2, 1, 0, 2, 1, 0, 4);
        Checks.put(x, "a", 3);
        Checks.dueNode(x, 0, 1, 1, 1, 1, 0, 0);
        Checks.dueNode(x, 1, 1, 2, 1, 0, 0, 2);
        Checks.dueNode(x, 2, 1, 0, 2, 1, 0, 4);
        Checks.put(x, "", 4);
        Checks.dueNode(x, 0, 1, 1, 0, 1, 0, 0);
        Checks.dueNode(x, 1, 1, 1, 0, 1, 0, 1);
        Checks.put(x, "z", 5);
        Checks.due("children of the root", x.node(0, 1), 2);
        Checks.due("the deepest", x.count(10), 4);
        Checks.due("value", Checks.get(x, "abcxyz"), 2);
    }

    private static void joining() {
        RadixPages x = new RadixPages();
        Checks.put(x, "abcdef", 1);
        Checks.put(x, "abcxyz", 2);
        Checks.put(x, "abc", 3);
        Checks.remove(x, "abcdef");
        Checks.dueNode(x, 0, 1, 1, 3, 1);
        Checks.remove(x, "abc");
        Checks.dueNode(x, 0, 1, 0, 6, 1, 0, 0);
        Checks.due("nodes", x.count(1), 1);
        Checks.due("value", Checks.get(x, "abcxyz"), 2);
        Checks.put(x, "abcxaa", 4);
        Checks.put(x, "abcxab", 5);
        Checks.remove(x, "abcxyz");
        Checks.dueNode(x, 0, 1, 2, 5, 0, 0, 0);
        Checks.due("nodes then", x.count(1), 3);
        Checks.due("value then", Checks.get(x, "abcxab"), 5);
        Checks.put(x, "abcdefghijkl", 6);
        Checks.put(x, "abcdefghijk", 7);
        Checks.remove(x, "abcxaa");
        Checks.remove(x, "abcxab");
        Checks.remove(x, "abcdefghijk");
        Checks.dueNode(x, 0, 1, 0, 12, 1, 0, 0);
        Checks.due("longest", Checks.get(x, "abcdefghijkl"), 6);
    }

    private static void rootWithoutKeys() {
        RadixPages x = new RadixPages();
        Checks.put(x, "abc", 1);
        Checks.remove(x, "abc");
        Checks.dueNode(x, 0, 1, 0, 0, 0, 0, 0);
        Checks.due("new", x.count(6), 1);
        Checks.put(x, "xy", 2);
        Checks.dueNode(x, 0, 1, 0, 2, 1, 0, 0);
    }

    private static void keepingFormats() {
        RadixPages x = new RadixPages();
        for (int b = 0; b < 5; b++) {
            Checks.put(x, "pre" + (char) (b + 65), b);
        }
        Checks.dueNode(x, 0, 2, 5, 3, 0);
        Checks.put(x, "pr", 9);
        Checks.dueNode(x, 0, 1, 1, 2, 1);
        Checks.dueNode(x, 1, 2, 5, 0, 0);
        Checks.remove(x, "preA");
        Checks.dueNode(x, 1, 2, 4, 0, 0);
        Checks.remove(x, "pr");
        Checks.dueNode(x, 0, 2, 4, 3, 0);
        Checks.put(x, "q", 9);
        Checks.dueNode(x, 0, 1, 2, 0, 0);
        Checks.dueNode(x, 1, 2, 4, 2, 0);
        Checks.remove(x, "q");
        Checks.dueNode(x, 0, 2, 4, 3, 0);
        Checks.remove(x, "preB");
        Checks.dueNode(x, 0, 1, 3, 3, 0);
    }

    private static void counting() {
        RadixPages x = new RadixPages();
        String[] keys = {"", "a", "ab", "abc", "abd", "b"};
        for (String key : keys) {
            Checks.put(x, key, 1);
        }
        Checks.dueCounts(x, 6, 6, 6, 0, 0, 0, 6, 254, 0, 0, 4);
        x.commit();
        Checks.dueCounts(x, 6, 6, 6, 0, 0, 0, 0, 248, 1, 7, 4);
        int[] pages = {7, 5, 4, 2, 3, 6};
        int[] lead = {0, 1, 2, 3, 3, 1};
        for (int n = 0; n < pages.length; n++) {
            Checks.due("page of " + n, x.node(n, 4), pages[n]);
            Checks.due("lead of " + n, x.node(n, 5), lead[n]);
        }
    }

    private static void newNodes() {
        RadixPages x = new RadixPages();
        String[] keys = {"", "a", "ab", "abc", "abd", "b"};
        for (String key : keys) {
            Checks.put(x, key, 1);
        }
        x.commit();
        Checks.put(x, "abd", 1);
        Checks.due("new by the same value", x.count(6), 0);
        Checks.remove(x, "ac");
        Checks.due("new by a remove of nothing", x.count(6), 0);
        Checks.put(x, "a", 2);
        Checks.due("new by another value", x.count(6), 2);
        Checks.due("page of the root", x.count(9), 0);
        Checks.due("page of a", x.node(1, 4), 0);
        Checks.due("page of ab", x.node(2, 4), 4);
        Checks.put(x, "abx", 2);
        Checks.due("new by a child", x.count(6), 4);
        Checks.remove(x, "abx");
        Checks.due("new by a child that went", x.count(6), 3);
        Checks.due("free pages", x.count(7), 248);
        x.back();
        Checks.remove(x, "ab");
        Checks.due("new by a value that went", x.count(6), 3);
        Checks.due("page of abc", x.node(3, 4), 2);
        Checks.remove(x, "abd");
        Checks.due("new by a node put together", x.count(6), 3);
        Checks.due("nodes", x.count(1), 4);
        Checks.due("prefix of abc", x.node(2, 2), 1);
    }

    private static void wrongInputs() {
        RadixPages x = new RadixPages();
        Checks.put(x, "a", 1);
        int[] wrong = {-1, 11, Integer.MIN_VALUE, Integer.MAX_VALUE};
        for (int what : wrong) {
            Checks.due("count(" + what + ")", x.count(what), Checks.NONE);
            Checks.due("node(0, " + what + ")", x.node(0, what), Checks.NONE);
        }
        Checks.due("node(0, 6)", x.node(0, 6), Checks.NONE);
        Checks.due("node(1, 0)", x.node(1, 0), Checks.NONE);
        Checks.due("node(-1, 0)", x.node(-1, 0), Checks.NONE);
        Checks.due("node(most, 0)", x.node(Integer.MAX_VALUE, 0), Checks.NONE);
        Checks.due("node(least, 0)", x.node(Integer.MIN_VALUE, 0), Checks.NONE);
        x.halt();
        Checks.due("count when down", x.count(0), Checks.DOWN);
        Checks.due("wrong count when down", x.count(-1), Checks.DOWN);
        Checks.due("node when down", x.node(0, 0), Checks.DOWN);
        Checks.due("wrong node when down", x.node(-1, 0), Checks.DOWN);
    }
}
