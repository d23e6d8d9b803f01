import java.util.TreeMap;

/** The rows of a disk on which heads and trees are laid by hand, and poked into new objects. */
final class Layout {
    private final TreeMap<Integer, int[]> rows = new TreeMap<>();

    Layout node(int page, int format, String prefix, Long value, int... bytesAndPages) {
        Model.N n = new Model.N();
        n.format = format;
        n.prefix = prefix;
        n.value = value;
        for (int i = 0; i < bytesAndPages.length; i += 2) {
            Model.N kid = new Model.N();
            kid.page = bytesAndPages[i + 1];
            n.kids.put(bytesAndPages[i], kid);
        }
        rows.put(page, Model.encode(n));
        return this;
    }

    Layout head(int page, long sequence, int rootPage, int keys) {
        rows.put(page, Model.encodeHead(sequence, rootPage, keys));
        return this;
    }

    Layout set(int page, int i, int b) {
        rows.get(page)[i] = b;
        Checks.seal(rows.get(page));
        return this;
    }

    Layout setUnsealed(int page, int i, int b) {
        rows.get(page)[i] = b;
        return this;
    }

    Layout without(int page) {
        rows.remove(page);
        return this;
    }

    int at(int page, int i) {
        return rows.get(page)[i];
    }

    RadixPages lay() {
        RadixPages x = new RadixPages();
        for (int page : rows.keySet()) {
            Checks.pokeAll(x, page, new int[512], rows.get(page));
        }
        x.halt();
        return x;
    }

    /** Not right, however many keys the head on page 1 says that there are. */
    void dueNotRight(String what) {
        int low = at(1, 11);
        for (int keys = 0; keys <= low + 1; keys++) {
            set(1, 11, keys).due(what + ", " + keys + " keys", 0);
        }
        set(1, 11, low);
    }

    RadixPages due(String what, long want) {
        RadixPages x = lay();
        Checks.due(what + ": start()", x.start(), want);
        Checks.due(what + ": the sequence", x.count(8), want);
        if (want == 0) {
            Checks.due(what + ": keys", x.count(0), 0);
            Checks.due(what + ": nodes", x.count(1), 1);
            Checks.due(what + ": free", x.count(7), 254);
            Checks.due(what + ": the root's page", x.count(9), 0);
            Checks.due(what + ": nothing is new", x.count(6), 0);
        }
        return x;
    }
}
