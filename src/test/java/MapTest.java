import java.util.ArrayList;
import java.util.List;
import java.util.Random;
import java.util.TreeMap;

/** Promises 1, 5 to 10: a new object, put, remove, get, with, before, nth. */
final class MapTest {
    public static void main(String[] args) {
        newObject();
        plain();
        tooLong();
        fullTree();
        nodesAtTheLimit();
        bytesAreUnsigned();
        whenDown();
        for (int seed = 0; seed < 200; seed++) {
            againstTreeMap(seed);
        }
        Checks.end();
    }

    private static void newObject() {
        RadixPages x = new RadixPages();
        Checks.dueCounts(x, 0, 1, 1, 0, 0, 0, 0, 254, 0, 0, 1);
        Checks.due("node(0, 0) of a new one", x.node(0, 0), 1);
        Checks.due("commit of a new one", x.commit(), 0);
        Checks.due("back of a new one", x.back(), 0);
        Checks.due("start of a new one", x.start(), Checks.NONE);
        Checks.due("get of a new one", x.get(), Checks.NO);
        Checks.due("with of a new one", x.with(), 0);
        Checks.due("before of a new one", x.before(), 0);
        Checks.due("nth of a new one", x.nth(0), Checks.NONE);
        for (int page = 0; page < 256; page++) {
            RadixPages y = new RadixPages();
            for (int i = 0; i < 512; i++) {
                Checks.due("octet of a new one", y.octet(page, i), 0);
            }
        }
    }

    private static void plain() {
        RadixPages x = new RadixPages();
        Checks.due("put NO", x.put(Checks.NO), Checks.NONE);
        Checks.due("put", Checks.put(x, "abc", 5), 1);
        Checks.due("put the same", x.put(5), 0);
        Checks.due("put another one", x.put(-6), 0);
        Checks.due("get", x.get(), -6);
        Checks.due("put NO over a value", x.put(Checks.NO), Checks.NONE);
        Checks.due("get behind a refusal", x.get(), -6);
        Checks.due("get of a shorter one", Checks.get(x, "ab"), Checks.NO);
        Checks.due("get of a longer one", Checks.get(x, "abcd"), Checks.NO);
        Checks.due("get of another one", Checks.get(x, "abd"), Checks.NO);
        Checks.due("put of the shorter one", Checks.put(x, "ab", Long.MAX_VALUE), 1);
        Checks.due("put of the empty one", Checks.put(x, "", Long.MIN_VALUE + 1), 1);
        Checks.due("get of the empty one", x.get(), Long.MIN_VALUE + 1);
        Checks.due("with all", x.with(), 3);
        Checks.due("before the empty one", x.before(), 0);
        Checks.due("remove of one that is not there", Checks.remove(x, "a"), 0);
        Checks.due("before a", x.before(), 1);
        Checks.due("with a", x.with(), 2);
        Checks.due("before abb", Checks.before(x, "abb"), 2);
        Checks.due("before abca", Checks.before(x, "abca"), 3);
        Checks.due("before abc", Checks.before(x, "abc"), 2);
        Checks.due("nth(2)", x.nth(2), 3);
        Checks.due("its key", Checks.tapeOf(x).equals("abc") ? 1 : 0, 1);
        Checks.due("nth(3)", x.nth(3), Checks.NONE);
        Checks.due("nth(-1)", x.nth(-1), Checks.NONE);
        Checks.due("nth(least)", x.nth(Integer.MIN_VALUE), Checks.NONE);
        Checks.due("nth(most)", x.nth(Integer.MAX_VALUE), Checks.NONE);
        Checks.due("the tape behind refusals", Checks.tapeOf(x).equals("abc") ? 1 : 0, 1);
        Checks.due("nth(0)", x.nth(0), 0);
        Checks.due("its tape", x.tapeAt(0), Checks.NONE);
        Checks.due("remove", Checks.remove(x, "ab"), 1);
        Checks.due("remove again", x.remove(), 0);
        Checks.due("get of what was removed", x.get(), Checks.NO);
        Checks.due("get of what stays", Checks.get(x, "abc"), -6);
    }

    private static void tooLong() {
        RadixPages x = new RadixPages();
        Checks.due("put of 12 bytes", Checks.put(x, "abcdefghijkl", 1), 1);
        Checks.due("get of 12 bytes", x.get(), 1);
        Checks.due("with 12 bytes", x.with(), 1);
        x.type('m', 1);
        Checks.due("put of 13 bytes", x.put(2), Checks.NONE);
        Checks.due("remove of 13 bytes", x.remove(), Checks.NONE);
        Checks.due("get of 13 bytes", x.get(), Checks.NO);
        Checks.due("with 13 bytes", x.with(), Checks.NONE);
        Checks.due("before 13 bytes", x.before(), Checks.NONE);
        Checks.due("count behind refusals", x.count(0), 1);
        Checks.due("nth with 13 bytes on the tape", x.nth(0), 12);
        Checks.due("the tape then", x.tapeAt(12), Checks.NONE);
        Checks.due("remove of 12 bytes", x.remove(), 1);
    }

    private static void fullTree() {
        RadixPages x = new RadixPages();
        Checks.putBits(x, 100);
        Checks.due("nodes of 100 keys", x.count(1), 199);
        Checks.due("a cut that takes two nodes", Checks.put(x, Checks.bits(100), 1), Checks.FULL);
        Checks.due("nodes behind a refusal", x.count(1), 199);
        Checks.due("new nodes behind a refusal", x.count(6), 199);
        Checks.due("the key behind a refusal", x.get(), Checks.NO);
        Checks.due("a child more", Checks.put(x, Checks.bits(0) + "abc", 1), 1);
        Checks.due("nodes", x.count(1), 200);
        Checks.due("a child when full", Checks.put(x, Checks.bits(0) + "b", 1), Checks.FULL);
        Checks.due("a deeper child when full", Checks.put(x, Checks.bits(0) + "abcd", 1), Checks.FULL);
        Checks.due("a cut when full", Checks.put(x, Checks.bits(0) + "ab", 1), Checks.FULL);
        Checks.due("too long when full", Checks.put(x, "aaaaaaaaaaaaa", 1), Checks.NONE);
        Checks.due("NO when full", Checks.put(x, "z", Checks.NO), Checks.NONE);
        Checks.due("keys", x.count(0), 101);
        Checks.due("nodes behind refusals", x.count(1), 200);
        Checks.due("a value where a node is", Checks.put(x, "", 1), 1);
        Checks.due("another value", Checks.put(x, Checks.bits(7), -1), 0);
        Checks.due("keys then", x.count(0), 102);
        Checks.due("remove when full", Checks.remove(x, Checks.bits(99)), 1);
        Checks.due("two nodes are gone", x.count(1), 198);
        Checks.due("the cut that was refused", Checks.put(x, Checks.bits(100), 1), 1);
        Checks.due("nodes at last", x.count(1), 200);
    }

    private static void nodesAtTheLimit() {
        RadixPages x = new RadixPages();
        Checks.putBits(x, 99);
        Checks.put(x, Checks.bits(98) + "abc", 1);
        Checks.due("nodes", x.count(1), 198);
        Checks.due("two nodes more", Checks.put(x, Checks.bits(98) + "az", 2), 1);
        Checks.due("nodes then", x.count(1), 200);
        Checks.remove(x, Checks.bits(98) + "az");
        Checks.put(x, Checks.bits(97) + "abc", 1);
        Checks.due("nodes again", x.count(1), 199);
        Checks.due("two nodes too many", Checks.put(x, Checks.bits(97) + "az", 2), Checks.FULL);
        Checks.due("one node more by a cut", Checks.put(x, Checks.bits(97) + "a", 2), 1);
        Checks.due("nodes at last", x.count(1), 200);
    }

    private static void bytesAreUnsigned() {
        RadixPages x = new RadixPages();
        Checks.put(x, Checks.text(0x80), 1);
        Checks.put(x, Checks.text(0x7F), 2);
        Checks.put(x, Checks.text(0xFF, 0), 3);
        Checks.put(x, Checks.text(0), 4);
        Checks.due("nth(0)", x.nth(0), 1);
        Checks.due("least", x.get(), 4);
        x.nth(1);
        Checks.due("second", x.get(), 2);
        x.nth(2);
        Checks.due("third", x.get(), 1);
        Checks.due("nth(3)", x.nth(3), 2);
        Checks.due("greatest", x.get(), 3);
        Checks.due("before it", x.before(), 3);
        Checks.due("its byte", x.tapeAt(0), 255);
        Checks.due("its next byte", x.tapeAt(1), 0);
    }

    private static void whenDown() {
        RadixPages x = new RadixPages();
        Checks.put(x, "a", 1);
        x.halt();
        Checks.due("put", x.put(1), Checks.DOWN);
        Checks.due("put NO", x.put(Checks.NO), Checks.DOWN);
        Checks.due("remove", x.remove(), Checks.DOWN);
        Checks.due("get", x.get(), Checks.NO);
        Checks.due("with", x.with(), Checks.DOWN);
        Checks.due("before", x.before(), Checks.DOWN);
        Checks.due("nth", x.nth(-1), Checks.DOWN);
        x.type(1L, 8);
        x.type(1L, 8);
        Checks.due("with too many bytes", x.with(), Checks.DOWN);
    }

    private static void againstTreeMap(int seed) {
        Random random = new Random(seed);
        RadixPages x = new RadixPages();
        TreeMap<String, Long> map = new TreeMap<>();
        int letters = 2 + random.nextInt(6);
        int longest = 1 + random.nextInt(12);
        for (int i = 0; i < 50; i++) {
            StringBuilder text = new StringBuilder();
            int length = random.nextInt(longest + 1);
            for (int k = 0; k < length; k++) {
                text.append((char) (random.nextInt(letters) * 255 / (letters - 1)));
            }
            String key = text.toString();
            if (random.nextInt(3) == 0) {
                Checks.due(seed + " remove", Checks.remove(x, key), map.remove(key) == null ? 0 : 1);
            } else {
                Checks.due(seed + " put", Checks.put(x, key, i), map.put(key, (long) i) == null ? 1 : 0);
            }
            Checks.due(seed + " get", x.get(), map.getOrDefault(key, Checks.NO));
            Checks.due(seed + " before", x.before(), map.headMap(key).size());
            Checks.due(seed + " with", x.with(), map.keySet().stream().filter(k -> k.startsWith(key)).count());
        }
        List<String> keys = new ArrayList<>(map.keySet());
        for (int i = 0; i < keys.size() && i < 30; i++) {
            Checks.due(seed + " nth(" + i + ")", x.nth(i), keys.get(i).length());
            Checks.due(seed + " get of the nth", x.get(), map.get(keys.get(i)));
        }
        Checks.due(seed + " nth behind all", x.nth(keys.size()), Checks.NONE);
    }
}
