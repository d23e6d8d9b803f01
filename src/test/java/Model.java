import java.util.ArrayList;
import java.util.List;
import java.util.TreeMap;
import java.util.TreeSet;

/**
 * The document once more, in another way: nodes that are never changed once they stand, recursion,
 * and a START that looks at each rule by itself. The tests compare an object's answers with its.
 */
final class Model {
    static final class N {
        String prefix = "";
        Long value = null;
        TreeMap<Integer, N> kids = new TreeMap<>();
        int format = 1;
        int page = 0;
        boolean fresh = true;

        N copy() {
            N n = new N();
            n.prefix = prefix;
            n.value = value;
            n.kids = new TreeMap<>(kids);
            n.format = format;
            return n;
        }
    }

    private static final int[] MOST = {0, 4, 16, 48, 256};
    private static final int[] FEW = {0, -1, 3, 12, 40};

    String tape = "";
    N root = emptyRoot();
    N committed = root;
    final int[][] pages = new int[256][512];
    int sequence = 0;
    boolean down = false;
    private int left = -1;
    private int tear = 0;

    static N emptyRoot() {
        N n = new N();
        n.fresh = false;
        return n;
    }

    private static N leaf(String prefix, long v) {
        N n = new N();
        n.prefix = prefix;
        n.value = v;
        return n;
    }

    private static int common(String a, String b) {
        int i = 0;
        while (i < a.length() && i < b.length() && a.charAt(i) == b.charAt(i)) {
            i++;
        }
        return i;
    }

    static List<N> nodes(N n, List<N> all) {
        all.add(n);
        for (N kid : n.kids.values()) {
            nodes(kid, all);
        }
        return all;
    }

    static TreeMap<String, Long> keys(N n, String lead, TreeMap<String, Long> all) {
        String here = lead + n.prefix;
        if (n.value != null) {
            all.put(here, n.value);
        }
        for (int b : n.kids.keySet()) {
            keys(n.kids.get(b), here + (char) b, all);
        }
        return all;
    }

    private TreeMap<String, Long> keys() {
        return keys(root, "", new TreeMap<>());
    }

    private List<N> nodes() {
        return nodes(root, new ArrayList<>());
    }

    private static N putIn(N n, String key, long v) {
        int c = common(n.prefix, key);
        String rest = key.substring(c);
        N made = n.copy();
        if (c < n.prefix.length()) {
            made.prefix = n.prefix.substring(c + 1);
            N upper = new N();
            upper.prefix = n.prefix.substring(0, c);
            upper.kids.put((int) n.prefix.charAt(c), made);
            if (rest.isEmpty()) {
                upper.value = v;
            } else {
                upper.kids.put((int) rest.charAt(0), leaf(rest.substring(1), v));
            }
            return upper;
        }
        if (rest.isEmpty()) {
            made.value = v;
            return made;
        }
        int b = rest.charAt(0);
        N kid = n.kids.get(b);
        made.kids.put(b, kid == null ? leaf(rest.substring(1), v) : putIn(kid, rest.substring(1), v));
        if (made.kids.size() > MOST[made.format]) {
            made.format++;
        }
        return made;
    }

    /** Null when the node goes. */
    private static N removeIn(N n, String key) {
        N made = n.copy();
        String rest = key.substring(n.prefix.length());
        if (rest.isEmpty()) {
            made.value = null;
            if (made.kids.isEmpty()) {
                return null;
            }
        } else {
            int b = rest.charAt(0);
            N kid = removeIn(n.kids.get(b), rest.substring(1));
            if (kid != null) {
                made.kids.put(b, kid);
            } else {
                made.kids.remove(b);
                if (made.kids.size() <= FEW[made.format]) {
                    made.format--;
                }
            }
        }
        if (made.value == null && made.kids.size() == 1) {
            int b = made.kids.firstKey();
            N one = made.kids.get(b).copy();
            one.prefix = made.prefix + (char) b + one.prefix;
            return one;
        }
        return made;
    }

    long put(long v) {
        if (down) {
            return Checks.DOWN;
        }
        if (tape.length() > 12 || v == Checks.NO) {
            return Checks.NONE;
        }
        TreeMap<String, Long> keys = keys();
        Long had = keys.get(tape);
        if (had != null && had == v) {
            return 0;
        }
        N made = keys.isEmpty() ? leaf(tape, v) : putIn(root, tape, v);
        if (nodes(made, new ArrayList<>()).size() > 200) {
            return Checks.FULL;
        }
        root = made;
        return had == null ? 1 : 0;
    }

    long remove() {
        if (down) {
            return Checks.DOWN;
        }
        if (tape.length() > 12) {
            return Checks.NONE;
        }
        if (!keys().containsKey(tape)) {
            return 0;
        }
        N made = removeIn(root, tape);
        root = made == null ? new N() : made;
        return 1;
    }

    long get() {
        return down || tape.length() > 12 ? Checks.NO : keys().getOrDefault(tape, Checks.NO);
    }

    long with() {
        if (down || tape.length() > 12) {
            return down ? Checks.DOWN : Checks.NONE;
        }
        int found = 0;
        for (String key : keys().keySet()) {
            found += key.startsWith(tape) ? 1 : 0;
        }
        return found;
    }

    long before() {
        if (down || tape.length() > 12) {
            return down ? Checks.DOWN : Checks.NONE;
        }
        return keys().headMap(tape).size();
    }

    long nth(int i) {
        List<String> keys = new ArrayList<>(keys().keySet());
        if (down || i < 0 || i >= keys.size()) {
            return down ? Checks.DOWN : Checks.NONE;
        }
        tape = keys.get(i);
        return tape.length();
    }

    private int fresh() {
        int found = 0;
        for (N n : nodes()) {
            found += n.fresh ? 1 : 0;
        }
        return found;
    }

    private TreeSet<Integer> free() {
        TreeSet<Integer> free = new TreeSet<>();
        for (int page = 2; page < 256; page++) {
            free.add(page);
        }
        for (N n : nodes(committed, new ArrayList<>())) {
            free.remove(n.page);
        }
        return free;
    }

    static int[] encode(N n) {
        int[] row = new int[512];
        row[0] = n.format;
        row[1] = n.value == null ? 0 : 1;
        Checks.setLong(row, 2, n.value == null ? 0 : n.value);
        row[10] = n.prefix.length();
        for (int i = 0; i < n.prefix.length(); i++) {
            row[11 + i] = n.prefix.charAt(i);
        }
        row[23] = n.kids.size();
        int place = 0;
        for (int b : n.kids.keySet()) {
            int page = n.kids.get(b).page;
            switch (n.format) {
                case 1 -> {
                    row[24 + place] = b;
                    row[28 + place] = page;
                }
                case 2 -> {
                    row[24 + place] = b;
                    row[40 + place] = page;
                }
                case 3 -> {
                    row[24 + b] = place + 1;
                    row[280 + place] = page;
                }
                default -> row[24 + b] = page;
            }
            place++;
        }
        Checks.seal(row);
        return row;
    }

    static int[] encodeHead(long sequence, int rootPage, int keys) {
        int[] row = new int[512];
        row[0] = 1;
        Checks.setLong(row, 1, sequence);
        row[9] = rootPage;
        row[10] = keys / 256;
        row[11] = keys % 256;
        Checks.seal(row);
        return row;
    }

    private boolean write(int page, int[] row) {
        boolean goes = left == 0;
        System.arraycopy(row, 0, pages[page], 0, goes ? tear : 512);
        if (goes) {
            pages[page][0] = 255;
            down = true;
        }
        left = left < 0 ? -1 : left - 1;
        return !goes;
    }

    private boolean save(N n, TreeSet<Integer> free) {
        for (N kid : n.kids.values()) {
            if (!save(kid, free)) {
                return false;
            }
        }
        if (!n.fresh) {
            return true;
        }
        n.page = free.pollFirst();
        return write(n.page, encode(n));
    }

    long commit() {
        if (down) {
            return Checks.DOWN;
        }
        int fresh = fresh();
        TreeSet<Integer> free = free();
        if (fresh == 0 || fresh > free.size()) {
            return fresh == 0 ? 0 : Checks.FULL;
        }
        if (!save(root, free) || !write((sequence + 1) % 2, encodeHead(sequence + 1, root.page, keys().size()))) {
            return Checks.LOST;
        }
        sequence++;
        for (N n : nodes()) {
            n.fresh = false;
        }
        committed = root;
        return fresh + 1;
    }

    long back() {
        if (down) {
            return Checks.DOWN;
        }
        int fresh = fresh();
        root = committed;
        return fresh;
    }

    private static int depth(N n) {
        int deepest = 0;
        for (N kid : n.kids.values()) {
            deepest = Math.max(deepest, depth(kid));
        }
        return deepest + 1;
    }

    long count(int what) {
        if (down) {
            return Checks.DOWN;
        }
        if (what >= 2 && what <= 5) {
            return nodes().stream().filter(n -> n.format == what - 1).count();
        }
        return switch (what) {
            case 0 -> keys().size();
            case 1 -> nodes().size();
            case 6 -> fresh();
            case 7 -> free().size();
            case 8 -> sequence;
            case 9 -> root.fresh ? 0 : root.page;
            case 10 -> depth(root);
            default -> Checks.NONE;
        };
    }

    private int leadTo(N from, N sought, int lead) {
        if (from == sought) {
            return lead;
        }
        for (N kid : from.kids.values()) {
            int found = leadTo(kid, sought, lead + from.prefix.length() + 1);
            if (found >= 0) {
                return found;
            }
        }
        return -1;
    }

    long node(int n, int what) {
        List<N> nodes = nodes();
        if (down || n < 0 || n >= nodes.size()) {
            return down ? Checks.DOWN : Checks.NONE;
        }
        N node = nodes.get(n);
        return switch (what) {
            case 0 -> node.format;
            case 1 -> node.kids.size();
            case 2 -> node.prefix.length();
            case 3 -> node.value == null ? 0 : 1;
            case 4 -> node.fresh ? 0 : node.page;
            case 5 -> leadTo(root, node, 0);
            default -> Checks.NONE;
        };
    }

    long power(int n, int tear) {
        if (down || n < -1 || n > 1000 || tear < 0 || tear > 511) {
            return down ? Checks.DOWN : Checks.NONE;
        }
        left = n;
        this.tear = tear;
        return 1;
    }

    long halt() {
        if (down) {
            return Checks.DOWN;
        }
        down = true;
        return 1;
    }

    long start() {
        if (!down) {
            return Checks.NONE;
        }
        down = false;
        left = -1;
        long even = rightHead(0);
        long odd = rightHead(1);
        int[] order = even > odd ? new int[] {0, 1} : new int[] {1, 0};
        for (int head : order) {
            if ((head == 0 ? even : odd) > 0) {
                N read = readTree(head);
                if (read != null) {
                    root = read;
                    committed = read;
                    sequence = (int) (head == 0 ? even : odd);
                    return sequence;
                }
            }
        }
        root = emptyRoot();
        committed = root;
        sequence = 0;
        return 0;
    }

    private static boolean sumIsRight(int[] row) {
        return Checks.longAt(row, 504) == Checks.sum(row);
    }

    private static boolean zero(int[] row, int from, int to) {
        for (int i = from; i < to; i++) {
            if (row[i] != 0) {
                return false;
            }
        }
        return true;
    }

    private long rightHead(int page) {
        int[] row = pages[page];
        long sequence = Checks.longAt(row, 1);
        boolean right = row[0] == 1 && zero(row, 12, 504) && sumIsRight(row);
        right &= sequence >= 1 && sequence <= 1000000000 && sequence % 2 == page;
        return right && row[9] >= 2 ? sequence : 0;
    }

    private N readTree(int head) {
        int[] row = pages[head];
        TreeSet<Integer> seen = new TreeSet<>();
        N n = readNode(row[9], true, seen, 0);
        if (n == null || nodes(n, new ArrayList<>()).size() > 200) {
            return null;
        }
        return keys(n, "", new TreeMap<>()).size() == row[10] * 256 + row[11] ? n : null;
    }

    private N readNode(int page, boolean isRoot, TreeSet<Integer> seen, int lead) {
        int[] row = pages[page];
        if (page < 2 || !seen.add(page) || lead > 12 || !sumIsRight(row) || row[0] < 1 || row[0] > 4 || row[1] > 1) {
            return null;
        }
        N n = emptyRoot();
        n.page = page;
        n.format = row[0];
        long value = Checks.longAt(row, 2);
        n.value = row[1] == 1 ? (Long) value : null;
        if (row[1] == 0 && value != 0 || value == Checks.NO || row[10] > 12 || !zero(row, 11 + row[10], 23)) {
            return null;
        }
        for (int i = 0; i < row[10]; i++) {
            n.prefix += (char) row[11 + i];
        }
        int here = lead + n.prefix.length();
        TreeMap<Integer, Integer> at = n.format < 3 ? listed(row, MOST[n.format]) : mapped(row);
        if (here > 12 || at == null || at.size() != row[23] || at.size() > MOST[n.format]) {
            return null;
        }
        for (int b : at.keySet()) {
            N kid = readNode(at.get(b), false, seen, here + 1);
            if (kid == null) {
                return null;
            }
            n.kids.put(b, kid);
        }
        boolean bare = isRoot && n.kids.isEmpty() && n.prefix.isEmpty() && n.format == 1;
        return n.value != null || n.kids.size() >= 2 || bare ? n : null;
    }

    private static TreeMap<Integer, Integer> listed(int[] row, int most) {
        TreeMap<Integer, Integer> at = new TreeMap<>();
        int c = row[23];
        if (c > most || !zero(row, 24 + c, 24 + most) || !zero(row, 24 + most + c, 504)) {
            return null;
        }
        for (int i = 0; i < c; i++) {
            if (i > 0 && row[24 + i] <= row[23 + i]) {
                return null;
            }
            at.put(row[24 + i], row[24 + most + i]);
        }
        return at;
    }

    private static TreeMap<Integer, Integer> mapped(int[] row) {
        TreeMap<Integer, Integer> at = new TreeMap<>();
        for (int b = 0; b < 256; b++) {
            int entry = row[24 + b];
            if (entry == 0) {
                continue;
            }
            if (row[0] == 3 && (entry != at.size() + 1 || entry > 48)) {
                return null;
            }
            at.put(b, row[0] == 3 ? row[279 + entry] : entry);
        }
        int end = row[0] == 3 ? 280 + Math.min(at.size(), 48) : 280;
        return zero(row, end, 504) ? at : null;
    }
}
