/** The sentences of promises 1 to 19 that name an edge, each with a test of its own. */
final class PromiseEdgesTest {
    private static final int LEAST = Integer.MIN_VALUE, GREATEST = Integer.MAX_VALUE;

    public static void main(String[] args) {
        newObject();
        typeTakesTheLowestBytes();
        typeOf1To8();
        typeTo64();
        typeWhenDown();
        cutKeepsTheFirst();
        cutOfTooMany();
        cutWhenDown();
        tapeAtItsEnds();
        putAnswers();
        putOfNo();
        removeAnswers();
        getAnswers();
        withAnswers();
        beforeAnswers();
        nthAnswers();
        nthBecomesTheTape();
        commitAnswers();
        backAnswers();
        backToFormats();
        countKeysToSequence();
        countOfTheRootsPage();
        countOfTheDeepest();
        countOfWhat();
        nodeOfN();
        nodeOfWhat();
        powerAtTheNthWrite();
        powerOfNAndTear();
        powerAcrossCommits();
        startAnswers();
        haltAnswers();
        octetAtItsEnds();
        pokeXors();
        pokeAtItsEnds();
        pokeBeforeStart();
        Checks.end();
    }

    private static RadixPages withKeys(String... keys) {
        RadixPages x = new RadixPages();
        for (int i = 0; i < keys.length; i++) {
            Checks.put(x, keys[i], i + 1);
        }
        return x;
    }

    private static void newObject() {
        Checks.by("1: Pages of 0s, a tree without keys, of which nothing is new; power stays.");
        RadixPages x = new RadixPages();
        Checks.dueCounts(x, 0, 1, 1, 0, 0, 0, 0, 254, 0, 0, 1);
        Checks.dueNode(x, 0, 1, 0, 0, 0, 0, 0);
        Checks.due("the tape", x.tapeAt(0), Checks.NONE);
        Checks.due("it is not down", x.start(), Checks.NONE);
        Checks.due("nothing is new", x.back(), 0);
        Checks.due("nothing is new", x.commit(), 0);
        for (int page = 0; page < 256; page++) {
            Checks.due("octet", x.octet(page, page * 2), 0);
        }
        Checks.put(x, "a", 1);
        Checks.due("power stays", x.commit(), 2);
        RadixPages other = new RadixPages();
        Checks.due("another object has pages of its own", other.octet(2, 0), 0);
        Checks.due("and keys", other.count(0), 0);
    }

    private static void typeTakesTheLowestBytes() {
        Checks.by("2: The n lowest bytes of w, the highest of them first, come behind the tape: how many it has.");
        int[] bytes = {0xF1, 0x80, 0x03, 0x04, 0x05, 0x06, 0x7F, 0xFF};
        for (int n = 1; n <= 8; n++) {
            RadixPages x = new RadixPages();
            Checks.due("the first", x.type(0xAB, 1), 1);
            Checks.due("type of " + n, x.type(0xF180030405067FFFL, n), 1 + n);
            Checks.due("what was there", x.tapeAt(0), 0xAB);
            for (int i = 0; i < n; i++) {
                Checks.due("byte " + i, x.tapeAt(1 + i), bytes[8 - n + i]);
            }
            Checks.due("no byte more", x.tapeAt(1 + n), Checks.NONE);
        }
        RadixPages x = new RadixPages();
        Checks.due("type of 0", x.type(0, 8), 8);
        Checks.due("its last byte", x.tapeAt(7), 0);
    }

    private static void typeOf1To8() {
        Checks.by("2: IllegalArgumentException: n is not 1 .. 8");
        RadixPages x = new RadixPages();
        for (int n : new int[] {LEAST, -8, -1, 0, 9, 10, 64, GREATEST}) {
            Checks.throwsIt("type of " + n, IllegalArgumentException.class, () -> x.type(5, n));
        }
        Checks.due("the tape", x.tapeAt(0), Checks.NONE);
        Checks.due("type of 1", x.type(5, 1), 1);
        Checks.due("type of 8", x.type(5, 8), 9);
    }

    private static void typeTo64() {
        Checks.by("2: IllegalStateException: it would have more than 64.");
        for (int n = 1; n <= 8; n++) {
            int last = n;
            RadixPages x = new RadixPages();
            Checks.tape(x, "x".repeat(64 - n));
            if (n < 8) {
                Checks.throwsIt("type to 65", IllegalStateException.class, () -> x.type(5, last + 1));
            }
            Checks.due("the tape behind it", x.tapeAt(64 - n), Checks.NONE);
            Checks.due("type to 64", x.type(5, n), 64);
            Checks.due("the last byte", x.tapeAt(63), 5);
            Checks.throwsIt("type to more", IllegalStateException.class, () -> x.type(5, last));
            Checks.throwsIt("type of 0", IllegalArgumentException.class, () -> x.type(5, 0));
            Checks.throwsIt("type of 9", IllegalArgumentException.class, () -> x.type(5, 9));
            Checks.due("the tape", x.cut(64), 64);
        }
    }

    private static void typeWhenDown() {
        Checks.by("2: (Also when DOWN.)");
        RadixPages x = new RadixPages();
        x.halt();
        Checks.due("type", x.type(0x0102, 2), 2);
        Checks.throwsIt("type of 9", IllegalArgumentException.class, () -> x.type(5, 9));
        Checks.tape(x, "x".repeat(64));
        Checks.throwsIt("type to 65", IllegalStateException.class, () -> x.type(5, 1));
    }

    private static void cutKeepsTheFirst() {
        Checks.by("3: The tape keeps its first n bytes: how many it had.");
        RadixPages x = new RadixPages();
        Checks.due("cut(0) of none", x.cut(0), 0);
        Checks.tape(x, "abcdef");
        Checks.due("cut of all", x.cut(6), 6);
        Checks.due("the tape", Checks.tapeOf(x), "abcdef");
        Checks.due("cut", x.cut(2), 6);
        Checks.due("the tape", Checks.tapeOf(x), "ab");
        x.type('z', 1);
        Checks.due("the tape", Checks.tapeOf(x), "abz");
        Checks.due("cut(0)", x.cut(0), 3);
        Checks.due("the tape", Checks.tapeOf(x), "");
    }

    private static void cutOfTooMany() {
        Checks.by("3: IllegalArgumentException: it has not so many, or n is below 0.");
        RadixPages x = new RadixPages();
        Checks.throwsIt("cut(1) of none", IllegalArgumentException.class, () -> x.cut(1));
        Checks.throwsIt("cut(-1) of none", IllegalArgumentException.class, () -> x.cut(-1));
        Checks.tape(x, "x".repeat(64));
        for (int n : new int[] {LEAST, -1, 65, GREATEST}) {
            Checks.throwsIt("cut(" + n + ")", IllegalArgumentException.class, () -> x.cut(n));
        }
        Checks.due("cut(63)", x.cut(63), 64);
        Checks.throwsIt("cut(64) of 63", IllegalArgumentException.class, () -> x.cut(64));
        Checks.due("the tape", x.cut(63), 63);
    }

    private static void cutWhenDown() {
        Checks.by("3: (Also when DOWN.)");
        RadixPages x = new RadixPages();
        x.type(0x010203, 3);
        x.halt();
        Checks.due("cut", x.cut(1), 3);
        Checks.throwsIt("cut(2)", IllegalArgumentException.class, () -> x.cut(2));
        Checks.throwsIt("cut(-1)", IllegalArgumentException.class, () -> x.cut(-1));
    }

    private static void tapeAtItsEnds() {
        Checks.by("4: Byte i of the tape; NONE. (Also when DOWN.)");
        RadixPages x = new RadixPages();
        Checks.due("tapeAt(0) of none", x.tapeAt(0), Checks.NONE);
        Checks.tape(x, Checks.text(255) + "x".repeat(62) + Checks.text(0));
        for (int down = 0; down < 2; down++) {
            Checks.due("the first byte", x.tapeAt(0), 255);
            Checks.due("the last byte", x.tapeAt(63), 0);
            for (int i : new int[] {LEAST, -1, 64, 65, GREATEST}) {
                Checks.due("tapeAt(" + i + ")", x.tapeAt(i), Checks.NONE);
            }
            x.halt();
        }
        x.cut(5);
        Checks.due("behind a cut", x.tapeAt(5), Checks.NONE);
        Checks.due("before it", x.tapeAt(4), 'x');
    }

    private static void putAnswers() {
        Checks.by("5: The key has a value: 1 when it is new, 0 when it had another one, or this one.");
        RadixPages x = new RadixPages();
        Checks.tape(x, "k");
        Checks.due("put of a new one", x.put(1), 1);
        Checks.due("put of this one", x.put(1), 0);
        Checks.due("put of another one", x.put(2), 0);
        Checks.due("get", x.get(), 2);
        Checks.due("keys", x.count(0), 1);
        x.remove();
        Checks.due("put of one that was removed", x.put(2), 1);
        Checks.due("put of 0", x.put(0), 0);
        Checks.due("get of 0", x.get(), 0);
    }

    private static void putOfNo() {
        Checks.by("5: NONE (the key; the value NO)");
        RadixPages x = new RadixPages();
        Checks.due("NO for a new key", x.put(Checks.NO), Checks.NONE);
        Checks.due("keys", x.count(0), 0);
        Checks.due("new nodes", x.count(6), 0);
        Checks.due("the next value", x.put(Checks.NO + 1), 1);
        Checks.due("NO for a key", x.put(Checks.NO), Checks.NONE);
        Checks.due("get", x.get(), Checks.NO + 1);
        Checks.due("13 bytes", Checks.put(x, "abcdefghijklm", 1), Checks.NONE);
        Checks.due("13 bytes and NO", x.put(Checks.NO), Checks.NONE);
    }

    private static void removeAnswers() {
        Checks.by("6: The key is REMOVED: 1; 0 when it is not there.");
        RadixPages x = new RadixPages();
        Checks.due("of none", x.remove(), 0);
        Checks.put(x, "ab", 1);
        Checks.put(x, "ac", 2);
        Checks.due("of a node without a value", Checks.remove(x, "a"), 0);
        Checks.due("of a part of a prefix", Checks.remove(x, ""), 0);
        Checks.due("behind a leaf", Checks.remove(x, "abc"), 0);
        Checks.due("of no child", Checks.remove(x, "ad"), 0);
        Checks.due("of a key", Checks.remove(x, "ab"), 1);
        Checks.due("of it again", x.remove(), 0);
        Checks.due("of the last key", Checks.remove(x, "ac"), 1);
        Checks.due("of it again", x.remove(), 0);
        Checks.due("of 13 bytes", Checks.remove(x, "abcdefghijklm"), Checks.NONE);
        x.halt();
        Checks.due("when down", x.remove(), Checks.DOWN);
    }

    private static void getAnswers() {
        Checks.by("7: The key's value; NO when it is not there, is none, or all is DOWN.");
        RadixPages x = withKeys("abcdefghijkl");
        Checks.due("the key's", x.get(), 1);
        Checks.due("not there", Checks.get(x, "abcdefghijk"), Checks.NO);
        Checks.due("none", Checks.get(x, "abcdefghijklm"), Checks.NO);
        x.cut(12);
        x.commit();
        x.halt();
        Checks.due("down", x.get(), Checks.NO);
        x.start();
        Checks.due("the key's again", x.get(), 1);
    }

    private static void withAnswers() {
        Checks.by("8: How many keys begin with what is on the tape. DOWN, NONE.");
        RadixPages x = withKeys("", "abc", "abcdef", "abcxyz", "abd", "b", "abcdefghijkl");
        String[] begin = {"", "a", "ab", "abc", "abcd", "abcdef", "abcdefg", "abcx", "abcxyz", "abd", "b"};
        int[] want = {7, 5, 5, 4, 2, 2, 1, 1, 1, 1, 1};
        for (int i = 0; i < begin.length; i++) {
            Checks.due("with " + begin[i], Checks.with(x, begin[i]), want[i]);
        }
        for (String none : new String[] {"c", "ac", "abcy", "abcxyzz", "bb", Checks.text(0)}) {
            Checks.due("with " + none, Checks.with(x, none), 0);
        }
        Checks.due("with a key of 12 bytes", Checks.with(x, "abcdefghijkl"), 1);
        Checks.due("with 13 bytes", Checks.with(x, "abcdefghijklm"), Checks.NONE);
        x.cut(0);
        x.halt();
        Checks.due("when down", x.with(), Checks.DOWN);
        x.start();
        Checks.due("of no keys", x.with(), 0);
    }

    private static void beforeAnswers() {
        Checks.by("9: How many keys come before the key (that need not be there). DOWN, NONE.");
        RadixPages x = withKeys("", "abc", "abcdef", "abcxyz", "abd", "b", "abcdefghijkl");
        String[] keys = {"", Checks.text(0), "a", "ab", "abb", "abc", "abca", "abcdef", "abcdefz", "abcw", "abcxyz", "abcxyzz",
            "abcz", "abd", "abe", "b", "bb", Checks.text(255)};
        int[] want = {0, 1, 1, 1, 1, 1, 2, 2, 4, 4, 4, 5, 5, 5, 6, 6, 7, 7};
        for (int i = 0; i < keys.length; i++) {
            Checks.due("before " + keys[i], Checks.before(x, keys[i]), want[i]);
        }
        Checks.due("before a key of 12 bytes", Checks.before(x, "abcdefghijkl"), 3);
        Checks.due("before 13 bytes", Checks.before(x, "abcdefghijklm"), Checks.NONE);
        x.cut(12);
        x.halt();
        Checks.due("when down", x.before(), Checks.DOWN);
        x.start();
        Checks.due("of no keys", x.before(), 0);
    }

    private static void nthAnswers() {
        Checks.by("10: The i-th key, from 0 on .. how many bytes. DOWN, NONE.");
        RadixPages x = new RadixPages();
        Checks.due("nth(0) of none", x.nth(0), Checks.NONE);
        x = withKeys("", "abcdefghijkl", "b");
        Checks.due("nth(0)", x.nth(0), 0);
        Checks.due("nth(1)", x.nth(1), 12);
        Checks.due("nth(2)", x.nth(2), 1);
        for (int i : new int[] {LEAST, -1, 3, GREATEST}) {
            Checks.due("nth(" + i + ")", x.nth(i), Checks.NONE);
        }
        Checks.due("the tape behind what is refused", Checks.tapeOf(x), "b");
        x.halt();
        Checks.due("when down", x.nth(0), Checks.DOWN);
        Checks.due("the tape behind it", Checks.tapeOf(x), "b");
    }

    private static void nthBecomesTheTape() {
        Checks.by("10: The i-th key .. becomes the tape's");
        RadixPages x = withKeys("", "abc", "abcdefghijkl", Checks.text(255, 0));
        String[] keys = {"", "abc", "abcdefghijkl", Checks.text(255, 0)};
        for (int i = 0; i < keys.length; i++) {
            Checks.tape(x, "x".repeat(64));
            x.nth(i);
            Checks.due("the tape behind nth(" + i + ")", Checks.tapeOf(x), keys[i]);
            x.cut(0);
            x.nth(i);
            Checks.due("the tape that was empty", Checks.tapeOf(x), keys[i]);
        }
        x.type('z', 1);
        Checks.due("it goes on behind the key", Checks.tapeOf(x), Checks.text(255, 0, 'z'));
    }

    private static void commitAnswers() {
        Checks.by("11: how many pages were written, the head, too; 0 when nothing is new. DOWN, FULL, LOST: power went.");
        RadixPages x = new RadixPages();
        Checks.due("nothing is new", x.commit(), 0);
        Checks.put(x, "a", 1);
        Checks.due("a root", x.commit(), 2);
        Checks.due("nothing is new", x.commit(), 0);
        Checks.put(x, "b", 1);
        Checks.due("a cut", x.commit(), 4);
        Checks.put(x, "b", 2);
        x.power(2, 0);
        Checks.due("power goes at the head", x.commit(), Checks.LOST);
        Checks.due("down", x.commit(), Checks.DOWN);
        x.start();
        Checks.put(x, "b", 2);
        x.power(3, 0);
        Checks.due("power goes behind the head", x.commit(), 3);
    }

    private static void backAnswers() {
        Checks.by("12: The tree is as it was committed, nothing is new: how many nodes were. DOWN.");
        RadixPages x = withKeys("ab", "ac");
        Checks.due("back to a tree without keys", x.back(), 3);
        Checks.dueCounts(x, 0, 1, 1, 0, 0, 0, 0, 254, 0, 0, 1);
        Checks.dueNode(x, 0, 1, 0, 0, 0, 0, 0);
        Checks.put(x, "ab", 1);
        Checks.put(x, "ac", 2);
        x.commit();
        Checks.due("back when nothing is new", x.back(), 0);
        Checks.putBytes(x, 0, 20);
        Checks.remove(x, "ab");
        Checks.put(x, "ac", 3);
        Checks.due("back", x.back(), 22);
        Checks.dueCounts(x, 2, 3, 3, 0, 0, 0, 0, 251, 1, 4, 2);
        Checks.dueNode(x, 0, 1, 2, 1, 0, 4, 0);
        Checks.dueNode(x, 1, 1, 0, 0, 1, 2, 2);
        Checks.due("ab", Checks.get(x, "ab"), 1);
        Checks.due("ac", Checks.get(x, "ac"), 2);
        Checks.due("back again", x.back(), 0);
        Checks.remove(x, "ab");
        Checks.remove(x, "ac");
        Checks.due("back from a tree without keys", x.back(), 1);
        Checks.due("keys", x.count(0), 2);
        x.halt();
        Checks.due("back when down", x.back(), Checks.DOWN);
    }

    private static void backToFormats() {
        Checks.by("12: The tree is as it was committed: its formats and prefixes, too");
        RadixPages x = new RadixPages();
        for (int b = 0; b < 17; b++) {
            Checks.put(x, "pre" + (char) b, b);
        }
        x.commit();
        Checks.put(x, "p", 1);
        for (int b = 0; b < 14; b++) {
            Checks.remove(x, "pre" + (char) b);
        }
        Checks.dueCounts(x, 4, 5, 5, 0, 0, 0, 2, 236, 1, 0, 3);
        Checks.due("back", x.back(), 2);
        Checks.dueCounts(x, 17, 18, 17, 0, 1, 0, 0, 236, 1, 19, 2);
        Checks.dueNode(x, 0, 3, 17, 3, 0, 19, 0);
        Checks.due("a value", Checks.get(x, Checks.text('p', 'r', 'e', 5)), 5);
        Checks.put(x, "pre", 5);
        x.commit();
        Checks.due("a commit behind it writes on", x.octet(20, 0), 3);
        x.halt();
        Checks.due("start", x.start(), 2);
        Checks.dueNode(x, 0, 3, 17, 3, 1, 20, 0);
        Checks.due("back behind start", x.back(), 0);
        Checks.put(x, "", 5);
        x.back();
        Checks.dueNode(x, 0, 3, 17, 3, 1, 20, 0);
    }

    private static void countKeysToSequence() {
        Checks.by("13: what = 0 keys, 1 nodes, 2 to 5 of format 1 to 4, 6 new ones, 7 free pages, 8 the sequence");
        RadixPages x = new RadixPages();
        Checks.putBytes(x, 0, 49);
        for (int b = 0; b < 17; b++) {
            Checks.put(x, Checks.text(1, b), b);
        }
        for (int b = 0; b < 5; b++) {
            Checks.put(x, Checks.text(2, b), b);
        }
        Checks.dueCounts(x, 71, 72, 69, 1, 1, 1, 72, 254, 0, 0, 3);
        x.commit();
        Checks.dueCounts(x, 71, 72, 69, 1, 1, 1, 0, 182, 1, 73, 3);
        Checks.put(x, Checks.text(2), -1);
        Checks.dueCounts(x, 71, 72, 69, 1, 1, 1, 2, 182, 1, 0, 3);
        x.commit();
        Checks.dueCounts(x, 71, 72, 69, 1, 1, 1, 0, 182, 2, 75, 3);
    }

    private static void countOfTheRootsPage() {
        Checks.by("13: 9 the page of the root (0 when it is new, or on none)");
        RadixPages x = new RadixPages();
        Checks.due("on none", x.count(9), 0);
        Checks.put(x, "a", 1);
        Checks.due("new", x.count(9), 0);
        x.commit();
        Checks.due("committed", x.count(9), 2);
        Checks.put(x, "a", 2);
        Checks.due("new again", x.count(9), 0);
        x.back();
        Checks.due("back", x.count(9), 2);
        x.halt();
        x.start();
        Checks.due("read", x.count(9), 2);
        x.poke(1, 0, 1);
        x.halt();
        x.start();
        Checks.due("on none again", x.count(9), 0);
    }

    private static void countOfTheDeepest() {
        Checks.by("13: 10 the greatest number of nodes from the root on to one without children");
        RadixPages x = new RadixPages();
        Checks.due("the root alone", x.count(10), 1);
        x.put(0);
        Checks.due("the root with a value", x.count(10), 1);
        for (int i = 1; i <= 12; i++) {
            x.type('a', 1);
            x.put(i);
            Checks.due("a chain of " + (i + 1), x.count(10), i + 1);
        }
        Checks.put(x, "zz", 1);
        Checks.due("a shorter way beside it", x.count(10), 13);
        Checks.remove(x, "aaaaaaaaaaaa");
        Checks.due("a chain of 12", x.count(10), 12);
    }

    private static void countOfWhat() {
        Checks.by("13: DOWN, NONE.");
        RadixPages x = withKeys("a");
        for (int what : new int[] {LEAST, -1, 11, 12, GREATEST}) {
            Checks.due("count(" + what + ")", x.count(what), Checks.NONE);
        }
        x.halt();
        for (int what = -1; what <= 11; what++) {
            Checks.due("count(" + what + ")", x.count(what), Checks.DOWN);
        }
    }

    private static void nodeOfN() {
        Checks.by("14: Of the n-th node, from 0 on (each before its children, these by their bytes)");
        RadixPages x = withKeys(Checks.text(200), "abc", "abd", "abdx", Checks.text(0));
        Checks.dueNode(x, 0, 1, 3, 0, 0, 0, 0);
        Checks.dueNode(x, 1, 1, 0, 0, 1, 0, 1);
        Checks.dueNode(x, 2, 1, 2, 1, 0, 0, 1);
        Checks.dueNode(x, 3, 1, 0, 0, 1, 0, 3);
        Checks.dueNode(x, 4, 1, 1, 0, 1, 0, 3);
        Checks.dueNode(x, 5, 1, 0, 0, 1, 0, 4);
        Checks.dueNode(x, 6, 1, 0, 0, 1, 0, 1);
        for (int n : new int[] {LEAST, -1, 7, 8, GREATEST}) {
            Checks.due("node(" + n + ", 0)", x.node(n, 0), Checks.NONE);
        }
        x.commit();
        int[] pages = {8, 2, 6, 3, 5, 4, 7};
        for (int n = 0; n < pages.length; n++) {
            Checks.due("node(" + n + ", 4)", x.node(n, 4), pages[n]);
        }
    }

    private static void nodeOfWhat() {
        Checks.by("14: what = 0 its format .. 5 how many bytes lead to it (its prefix not counted). DOWN, NONE.");
        RadixPages x = withKeys("abcdefghijk", "abcdefghijkl");
        Checks.dueNode(x, 0, 1, 1, 11, 1, 0, 0);
        Checks.dueNode(x, 1, 1, 0, 0, 1, 0, 12);
        for (int what : new int[] {LEAST, -1, 6, 7, GREATEST}) {
            Checks.due("node(0, " + what + ")", x.node(0, what), Checks.NONE);
        }
        Checks.due("node(2, 6)", x.node(2, 6), Checks.NONE);
        x.halt();
        for (int what = -1; what <= 6; what++) {
            Checks.due("node(0, " + what + ")", x.node(0, what), Checks.DOWN);
        }
    }

    private static void powerAtTheNthWrite() {
        Checks.by("15: Power goes at the n-th write from now on (0 the next one), behind its first tear bytes (0 .. 511)");
        for (int n = 0; n <= 4; n++) {
            RadixPages x = withKeys("a", "b");
            Checks.due("power", x.power(n, 511), 1);
            Checks.due("commit", x.commit(), n < 4 ? Checks.LOST : 4);
            int[] pages = {2, 3, 4, 1};
            for (int write = 0; write < pages.length; write++) {
                int first = write < n ? 1 : write == n ? 255 : 0;
                Checks.due("byte 0 of write " + write, x.octet(pages[write], 0), first);
            }
        }
    }

    private static void powerOfNAndTear() {
        Checks.by("15: n -1: it stays: 1. DOWN, NONE (n -1 .. 1000; tear).");
        RadixPages x = withKeys("a");
        for (int n : new int[] {LEAST, -3, -2, 1001, 1002, GREATEST}) {
            Checks.due("power(" + n + ", 0)", x.power(n, 0), Checks.NONE);
        }
        for (int tear : new int[] {LEAST, -1, 512, 513, GREATEST}) {
            Checks.due("power(0, " + tear + ")", x.power(0, tear), Checks.NONE);
            Checks.due("power(-1, " + tear + ")", x.power(-1, tear), Checks.NONE);
        }
        Checks.due("commit behind what was refused", x.commit(), 2);
        Checks.due("power(1000, 511)", x.power(1000, 511), 1);
        Checks.due("power(0, 0)", x.power(0, 0), 1);
        Checks.due("power(-1, 511)", x.power(-1, 511), 1);
        Checks.put(x, "a", 2);
        Checks.due("it stays", x.commit(), 2);
        x.halt();
        Checks.due("power(-1, 0)", x.power(-1, 0), Checks.DOWN);
    }

    private static void powerAcrossCommits() {
        Checks.by("15: the n-th write from now on: those of all commits count, and the latest power() alone");
        RadixPages x = new RadixPages();
        x.power(5, 0);
        for (int i = 1; i <= 2; i++) {
            Checks.put(x, "a", i);
            Checks.due("writes " + (2 * i - 2) + " and " + (2 * i - 1), x.commit(), 2);
            x.poke(200, 0, 1);
        }
        Checks.put(x, "a", 3);
        Checks.due("writes 4 and 5", x.commit(), Checks.LOST);
        Checks.due("start", x.start(), 2);
        x.power(0, 0);
        x.power(2, 0);
        Checks.put(x, "a", 3);
        Checks.due("writes 0 and 1", x.commit(), 2);
        Checks.put(x, "a", 4);
        Checks.due("write 2", x.commit(), Checks.LOST);
        x.start();
        x.power(1000, 0);
        for (int i = 0; i < 20; i++) {
            Checks.put(x, "a", 10 + i);
            Checks.due("long before write 1000", x.commit(), 2);
        }
    }

    private static void startAnswers() {
        Checks.by("16: START: the sequence of the tree that was read. NONE when it is not DOWN.");
        RadixPages x = withKeys("a");
        Checks.due("not down", x.start(), Checks.NONE);
        Checks.due("the batch stays", x.count(6), 1);
        x.halt();
        Checks.due("none was committed", x.start(), 0);
        Checks.due("not down again", x.start(), Checks.NONE);
        for (int i = 1; i <= 3; i++) {
            Checks.put(x, "a", i);
            x.commit();
            x.halt();
            Checks.due("start", x.start(), i);
            Checks.due("the sequence", x.count(8), i);
        }
    }

    private static void haltAnswers() {
        Checks.by("17: All is DOWN (as when power goes at no write). DOWN when it is; else 1.");
        RadixPages x = withKeys("a");
        x.commit();
        Checks.put(x, "b", 2);
        Checks.due("halt", x.halt(), 1);
        Checks.due("halt again", x.halt(), Checks.DOWN);
        Checks.due("count", x.count(0), Checks.DOWN);
        for (int page = 0; page < 6; page++) {
            Checks.due("nothing is torn", x.octet(page, 0), page == 1 || page == 2 ? 1 : 0);
        }
        Checks.due("start", x.start(), 1);
        Checks.due("what was not committed", x.get(), Checks.NO);
        Checks.due("what was", Checks.get(x, "a"), 1);
        Checks.due("halt once more", x.halt(), 1);
    }

    private static final int[][] NO_BYTES = {{-1, 0}, {256, 0}, {0, -1}, {0, 512}, {255, 512}, {1, -512}, {-1, 512},
        {LEAST, 0}, {GREATEST, 0}, {0, LEAST}, {0, GREATEST}, {GREATEST, GREATEST}, {LEAST, LEAST}};

    private static void octetAtItsEnds() {
        Checks.by("18: Byte i of a page. IndexOutOfBoundsException. (Also when DOWN.)");
        RadixPages x = new RadixPages();
        int[][] bytes = {{0, 0}, {0, 511}, {1, 0}, {255, 0}, {255, 511}};
        for (int[] at : bytes) {
            x.poke(at[0], at[1], 200 + at[0] % 7);
        }
        for (int down = 0; down < 2; down++) {
            for (int[] at : bytes) {
                Checks.due("octet", x.octet(at[0], at[1]), 200 + at[0] % 7);
            }
            for (int[] at : NO_BYTES) {
                Checks.throwsIt("octet(" + at[0] + ", " + at[1] + ")", IndexOutOfBoundsException.class,
                    () -> x.octet(at[0], at[1]));
            }
            x.halt();
        }
    }

    private static void pokeXors() {
        Checks.by("19: Byte i of a page is xored with the lowest eight bits of a mask: what it is then.");
        RadixPages x = new RadixPages();
        Checks.due("mask 0x0F", x.poke(9, 9, 0x0F), 0x0F);
        Checks.due("mask 0xFF", x.poke(9, 9, 0xFF), 0xF0);
        Checks.due("mask 0", x.poke(9, 9, 0), 0xF0);
        Checks.due("mask 0x100", x.poke(9, 9, 0x100), 0xF0);
        Checks.due("mask 0x7FFFFF01", x.poke(9, 9, 0x7FFFFF01), 0xF1);
        Checks.due("mask -1", x.poke(9, 9, -1), 0x0E);
        Checks.due("the least mask", x.poke(9, 9, LEAST), 0x0E);
        Checks.due("octet", x.octet(9, 9), 0x0E);
        Checks.due("the byte before", x.octet(9, 8), 0);
        Checks.due("the byte behind", x.octet(9, 10), 0);
    }

    private static void pokeAtItsEnds() {
        Checks.by("19: IndexOutOfBoundsException. (Also when DOWN.)");
        RadixPages x = new RadixPages();
        for (int down = 0; down < 2; down++) {
            for (int[] at : NO_BYTES) {
                Checks.throwsIt("poke(" + at[0] + ", " + at[1] + ")", IndexOutOfBoundsException.class,
                    () -> x.poke(at[0], at[1], 1));
            }
            Checks.due("the first byte", x.poke(0, 0, 3), down == 0 ? 3 : 0);
            Checks.due("the last byte", x.poke(255, 511, 3), down == 0 ? 3 : 0);
            Checks.due("the last byte of page 0", x.octet(0, 511), 0);
            Checks.due("the first byte of page 1", x.octet(1, 0), 0);
            x.halt();
        }
    }

    private static void pokeBeforeStart() {
        Checks.by("19: (What the tree is does not hang on that before start().)");
        RadixPages x = withKeys("a", "b");
        x.commit();
        for (int page = 1; page <= 4; page++) {
            x.poke(page, 0, 255);
            x.poke(page, 9, 255);
        }
        Checks.due("a", Checks.get(x, "a"), 1);
        Checks.dueCounts(x, 2, 3, 3, 0, 0, 0, 0, 251, 1, 4, 2);
        Checks.put(x, "a", 9);
        Checks.due("back", x.back(), 2);
        Checks.due("a", Checks.get(x, "a"), 1);
        Checks.put(x, "c", 3);
        Checks.due("commit", x.commit(), 3);
        Checks.due("the root's page", x.count(9), 6);
        Checks.due("b", Checks.get(x, "b"), 2);
        x.halt();
        Checks.due("start, now that it hangs on that", x.start(), 0);
    }
}
