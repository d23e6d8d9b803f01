/** The sentences of REFUSALS and THE TAPE that name an edge, each with a test of its own. */
final class RefusalEdgesTest {
    public static void main(String[] args) {
        downBeforeNone();
        downBeforeFull();
        noneBeforeFull();
        downChangesNothing();
        noneChangesNothing();
        fullPutChangesNothing();
        fullCommitChangesNothing();
        throwsChangeNothing();
        keyStays();
        moreThanTwelve();
        longTapeOfCallsWithoutKey();
        Checks.end();
    }

    private static RadixPages some() {
        RadixPages x = new RadixPages();
        Checks.put(x, "ab", 1);
        Checks.put(x, "ac", 2);
        x.commit();
        Checks.put(x, "ad", 3);
        return x;
    }

    /** All that count and node tell, and the tape. */
    private static String state(RadixPages x) {
        StringBuilder text = new StringBuilder();
        for (int what = 0; what <= 10; what++) {
            text.append(x.count(what)).append(' ');
        }
        for (int n = 0; n < 5; n++) {
            for (int what = 0; what <= 5; what++) {
                text.append(x.node(n, what)).append(' ');
            }
        }
        return text + Checks.tapeOf(x);
    }

    private static void downBeforeNone() {
        Checks.by("REFUSALS, the first one: DOWN, NONE");
        RadixPages x = some();
        Checks.tape(x, "abcdefghijklm");
        x.halt();
        Checks.due("put of 13 bytes", x.put(1), Checks.DOWN);
        Checks.due("put of NO", x.put(Checks.NO), Checks.DOWN);
        Checks.due("remove of 13 bytes", x.remove(), Checks.DOWN);
        Checks.due("with 13 bytes", x.with(), Checks.DOWN);
        Checks.due("before 13 bytes", x.before(), Checks.DOWN);
        Checks.due("nth(-1)", x.nth(-1), Checks.DOWN);
        Checks.due("nth(3)", x.nth(3), Checks.DOWN);
        Checks.due("count(-1)", x.count(-1), Checks.DOWN);
        Checks.due("count(11)", x.count(11), Checks.DOWN);
        Checks.due("node(-1, 0)", x.node(-1, 0), Checks.DOWN);
        Checks.due("node(0, 6)", x.node(0, 6), Checks.DOWN);
        Checks.due("power(-2, 0)", x.power(-2, 0), Checks.DOWN);
        Checks.due("power(0, 512)", x.power(0, 512), Checks.DOWN);
        Checks.due("get of 13 bytes", x.get(), Checks.NO);
    }

    private static RadixPages full() {
        RadixPages x = new RadixPages();
        Checks.putBits(x, 100);
        Checks.put(x, Checks.bits(0) + "a", 0);
        Checks.due("nodes", x.count(1), 200);
        return x;
    }

    private static void downBeforeFull() {
        Checks.by("REFUSALS, the first one: DOWN, .. FULL");
        RadixPages x = full();
        Checks.due("put", Checks.put(x, "z", 1), Checks.FULL);
        Checks.due("commit", x.commit(), 201);
        for (int i = 0; i < 30; i++) {
            Checks.put(x, Checks.bits(i), -1);
        }
        Checks.due("commit again", x.commit(), Checks.FULL);
        Checks.tape(x, "z");
        x.halt();
        Checks.due("put when down", x.put(1), Checks.DOWN);
        Checks.due("commit when down", x.commit(), Checks.DOWN);
    }

    private static void noneBeforeFull() {
        Checks.by("REFUSALS, the first one: .. NONE, FULL");
        RadixPages x = full();
        Checks.due("put", Checks.put(x, "z", 1), Checks.FULL);
        Checks.due("put of NO", x.put(Checks.NO), Checks.NONE);
        Checks.due("put of 13 bytes", Checks.put(x, "zzzzzzzzzzzzz", 1), Checks.NONE);
    }

    private static void downChangesNothing() {
        Checks.by("What is refused changes nothing: what is DOWN");
        RadixPages x = some();
        x.commit();
        String before = state(x);
        x.halt();
        x.put(9);
        x.remove();
        x.nth(0);
        x.commit();
        x.back();
        x.power(0, 0);
        x.halt();
        Checks.due("start", x.start(), 2);
        Checks.due("the state", state(x), before);
        Checks.put(x, "ad", 4);
        Checks.due("power that was refused", x.commit(), 3);
    }

    private static void noneChangesNothing() {
        Checks.by("What is refused changes nothing: what is NONE");
        RadixPages x = some();
        Checks.tape(x, "abcdefghijklm");
        x.power(1, 7);
        String before = state(x);
        Checks.due("put", x.put(9), Checks.NONE);
        Checks.due("remove", x.remove(), Checks.NONE);
        Checks.due("with", x.with(), Checks.NONE);
        Checks.due("before", x.before(), Checks.NONE);
        Checks.due("nth(-1)", x.nth(-1), Checks.NONE);
        Checks.due("nth(3)", x.nth(3), Checks.NONE);
        Checks.due("count", x.count(11), Checks.NONE);
        Checks.due("node", x.node(4, 0), Checks.NONE);
        Checks.due("power", x.power(5, 512), Checks.NONE);
        Checks.due("power", x.power(1001, 5), Checks.NONE);
        Checks.due("power", x.power(-1, -1), Checks.NONE);
        Checks.due("start", x.start(), Checks.NONE);
        Checks.due("the state", state(x), before);
        x.cut(12);
        Checks.due("put of NO", x.put(Checks.NO), Checks.NONE);
        Checks.due("keys", x.count(0), 3);
        Checks.put(x, "ad", Checks.NO);
        Checks.due("the value that NO was put over", x.get(), 3);
        Checks.due("power goes as it was set", x.commit(), Checks.LOST);
        Checks.due("the write before", x.octet(5, 0), 1);
        Checks.due("the write at which it went", x.octet(6, 0), 255);
        Checks.due("its last byte", x.octet(6, 511), 0);
    }

    private static void fullPutChangesNothing() {
        Checks.by("What is refused changes nothing: a put that is FULL");
        RadixPages x = full();
        x.commit();
        String before = state(x);
        String[] refused = {"z", Checks.bits(1) + "q", Checks.bits(0) + "ab", Checks.bits(100)};
        for (String key : refused) {
            Checks.due("put", Checks.put(x, key, 1), Checks.FULL);
            Checks.due("get", x.get(), Checks.NO);
        }
        Checks.due("new nodes", x.count(6), 0);
        Checks.tape(x, Checks.bits(0) + "a");
        Checks.due("the state", state(x), before);
        Checks.due("commit", x.commit(), 0);
    }

    private static void fullCommitChangesNothing() {
        Checks.by("What is refused changes nothing: a commit that is FULL");
        RadixPages x = full();
        x.commit();
        for (int i = 0; i < 28; i++) {
            Checks.put(x, Checks.bits(i), -1);
        }
        String before = state(x);
        Checks.due("commit", x.commit(), Checks.FULL);
        Checks.due("the state", state(x), before);
        Checks.due("a page that was free", x.octet(202, 0), 0);
        Checks.due("the other head", x.octet(0, 0), 0);
    }

    private static void throwsChangeNothing() {
        Checks.by("What is refused changes nothing: what throws");
        RadixPages x = some();
        Checks.tape(x, "abcdefghijklm");
        String before = state(x);
        Checks.throwsIt("type of 9", IllegalArgumentException.class, () -> x.type(1, 9));
        Checks.throwsIt("type of 0", IllegalArgumentException.class, () -> x.type(1, 0));
        Checks.throwsIt("cut(14)", IllegalArgumentException.class, () -> x.cut(14));
        Checks.throwsIt("cut(-1)", IllegalArgumentException.class, () -> x.cut(-1));
        Checks.throwsIt("octet", IndexOutOfBoundsException.class, () -> x.octet(256, 0));
        Checks.throwsIt("poke", IndexOutOfBoundsException.class, () -> x.poke(0, 512, 255));
        Checks.throwsIt("poke", IndexOutOfBoundsException.class, () -> x.poke(1, -1, 255));
        Checks.due("the state", state(x), before);
        Checks.due("the byte behind page 0", x.octet(1, 0), 1);
        Checks.due("the byte before page 1", x.octet(0, 511), 0);
    }

    private static void keyStays() {
        Checks.by("a KEY is what is on it (it stays)");
        RadixPages x = new RadixPages();
        Checks.tape(x, "key");
        x.put(1);
        dueTape("put", x);
        x.get();
        dueTape("get", x);
        x.with();
        dueTape("with", x);
        x.before();
        dueTape("before", x);
        x.commit();
        dueTape("commit", x);
        x.remove();
        dueTape("remove", x);
        x.back();
        dueTape("back", x);
        x.count(0);
        x.node(0, 0);
        x.octet(0, 0);
        x.poke(3, 3, 3);
        dueTape("count, node, octet, poke", x);
        x.put(2);
        x.power(0, 0);
        x.commit();
        dueTape("a commit that was lost", x);
        x.start();
        dueTape("start", x);
        x.halt();
        dueTape("halt", x);
    }

    private static void dueTape(String behind, RadixPages x) {
        Checks.due("the tape behind " + behind, Checks.tapeOf(x), "key");
    }

    private static void moreThanTwelve() {
        Checks.by("NONE when it has more than 12");
        RadixPages x = new RadixPages();
        String long64 = "abcdefgh".repeat(8);
        Checks.put(x, long64.substring(0, 12), 1);
        for (int length : new int[] {12, 13, 16, 63, 64}) {
            boolean isKey = length <= 12;
            Checks.tape(x, long64.substring(0, length));
            Checks.due("put", x.put(1), isKey ? 0 : Checks.NONE);
            Checks.due("get", x.get(), isKey ? 1 : Checks.NO);
            Checks.due("with", x.with(), isKey ? 1 : Checks.NONE);
            Checks.due("before", x.before(), isKey ? 0 : Checks.NONE);
            Checks.due("remove", x.remove(), isKey ? 1 : Checks.NONE);
            Checks.put(x, long64.substring(0, 12), 1);
        }
        Checks.due("keys", x.count(0), 1);
    }

    private static void longTapeOfCallsWithoutKey() {
        Checks.by("NONE when it has more than 12: of a KEY, and these calls use none");
        RadixPages x = new RadixPages();
        Checks.put(x, "ab", 1);
        Checks.tape(x, "abcdefghijklm");
        Checks.due("count", x.count(0), 1);
        Checks.due("node", x.node(0, 2), 2);
        Checks.due("commit", x.commit(), 2);
        Checks.due("back", x.back(), 0);
        Checks.due("power", x.power(-1, 0), 1);
        Checks.due("halt", x.halt(), 1);
        Checks.due("start", x.start(), 1);
        Checks.due("nth", x.nth(0), 2);
    }
}
