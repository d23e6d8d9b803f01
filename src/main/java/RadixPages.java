/**
 * A map from keys of 0 to 12 bytes to longs, kept as a radix tree on pages.
 *
 * All rows and nodes are made with the object and used again, so that no call needs room of its own.
 */
public final class RadixPages {
    public static final int NONE = -1, FULL = -2, LOST = -3, DOWN = -4;
    public static final long NO = Long.MIN_VALUE;

    private static final int KEY_BYTES = 12;
    private static final int TAPE_BYTES = 64;
    private static final int MOST_NODES = 200;
    private static final int BYTE_VALUES = 256;
    private static final int PAGES = 256;
    private static final int PAGE_BYTES = 512;
    private static final int HEADS = 2;
    private static final int LATEST_WRITE = 1000;
    private static final int LATEST_SEQUENCE = 1000000000;

    private final Tape tape;
    private final Tree tree;
    /** What back() returns to; the pages cannot tell it, because poke may have changed them. */
    private final Tree committed;
    private final Store store;
    private int sequence;
    private boolean down;

    public RadixPages() {
        tape = new Tape();
        tree = new Tree();
        committed = new Tree();
        store = new Store();
        sequence = 0;
        down = false;
    }

    public int type(long w, int n) throws IllegalArgumentException, IllegalStateException {
        if (n < 1 || n > 8) {
            throw new IllegalArgumentException("n is not 1 .. 8");
        }
        if (tape.length + n > TAPE_BYTES) {
            throw new IllegalStateException("the tape would have more than 64 bytes");
        }
        for (int shift = 8 * (n - 1); shift >= 0; shift -= 8) {
            tape.append((int) (w >>> shift) & 255);
        }
        return tape.length;
    }

    public int cut(int n) throws IllegalArgumentException {
        if (n < 0 || n > tape.length) {
            throw new IllegalArgumentException("the tape has not so many bytes");
        }
        int had = tape.length;
        tape.length = n;
        return had;
    }

    public int tapeAt(int i) {
        return tape.byteAt(i);
    }

    public int put(long v) {
        if (down) {
            return DOWN;
        }
        if (!tape.isKey() || v == NO) {
            return NONE;
        }
        return tree.store(tape, v);
    }

    public int remove() {
        if (down) {
            return DOWN;
        }
        if (!tape.isKey()) {
            return NONE;
        }
        return tree.drop(tape);
    }

    public long get() {
        if (down || !tape.isKey()) {
            return NO;
        }
        Node node = tree.nodeOf(tape);
        return node == null ? NO : node.value;
    }

    public int with() {
        if (down) {
            return DOWN;
        }
        if (!tape.isKey()) {
            return NONE;
        }
        return tree.keysUnder(tape);
    }

    public int before() {
        if (down) {
            return DOWN;
        }
        if (!tape.isKey()) {
            return NONE;
        }
        return tree.keysAhead(tape);
    }

    public int nth(int i) {
        if (down) {
            return DOWN;
        }
        Node node = tree.keyNumber(i);
        if (node == null) {
            return NONE;
        }
        node.spell(tape);
        return tape.length;
    }

    public int commit() {
        if (down) {
            return DOWN;
        }
        int fresh = tree.freshNodes();
        if (fresh == 0) {
            return 0;
        }
        if (fresh > freePages()) {
            return FULL;
        }
        if (!store.save(tree, committed, sequence + 1)) {
            down = true;
            return LOST;
        }
        sequence++;
        tree.settle();
        committed.become(tree);
        return fresh + 1;
    }

    public int back() {
        if (down) {
            return DOWN;
        }
        int fresh = tree.freshNodes();
        tree.become(committed);
        return fresh;
    }

    public int count(int what) {
        if (down) {
            return DOWN;
        }
        switch (what) {
            case 0:
                return tree.keys;
            case 1:
                return tree.nodes;
            case 2:
            case 3:
            case 4:
            case 5:
                return tree.nodesOfFormat(what - 1);
            case 6:
                return tree.freshNodes();
            case 7:
                return freePages();
            case 8:
                return sequence;
            case 9:
                return tree.root.page;
            case 10:
                return tree.depth();
            default:
                return NONE;
        }
    }

    public int node(int n, int what) {
        if (down) {
            return DOWN;
        }
        Node node = tree.nodeNumber(n);
        if (node == null) {
            return NONE;
        }
        switch (what) {
            case 0:
                return node.format;
            case 1:
                return node.children;
            case 2:
                return node.prefixLength;
            case 3:
                return node.hasValue ? 1 : 0;
            case 4:
                return node.page;
            case 5:
                return node.lead();
            default:
                return NONE;
        }
    }

    public int power(int n, int tear) {
        if (down) {
            return DOWN;
        }
        if (n < Disk.STAYS || n > LATEST_WRITE || tear < 0 || tear >= PAGE_BYTES) {
            return NONE;
        }
        store.disk.setPower(n, tear);
        return 1;
    }

    public int start() {
        if (!down) {
            return NONE;
        }
        down = false;
        store.disk.setPower(Disk.STAYS, 0);
        sequence = store.load(tree);
        committed.become(tree);
        return sequence;
    }

    public int halt() {
        if (down) {
            return DOWN;
        }
        down = true;
        return 1;
    }

    public int octet(int page, int i) throws IndexOutOfBoundsException {
        if (!Disk.has(page, i)) {
            throw new IndexOutOfBoundsException("there is no such byte");
        }
        return store.disk.byteAt(page, i);
    }

    public int poke(int page, int i, int mask) throws IndexOutOfBoundsException {
        if (!Disk.has(page, i)) {
            throw new IndexOutOfBoundsException("there is no such byte");
        }
        store.disk.setByte(page, i, store.disk.byteAt(page, i) ^ mask);
        return store.disk.byteAt(page, i);
    }

    private int freePages() {
        return PAGES - HEADS - committed.nodesOnPages();
    }

    /** The row of bytes that the caller writes keys on. */
    private static final class Tape {
        private final int[] bytes = new int[TAPE_BYTES];
        int length = 0;

        boolean isKey() {
            return length <= KEY_BYTES;
        }

        int byteAt(int i) {
            return i >= 0 && i < length && i < bytes.length ? bytes[i] : NONE;
        }

        void setByte(int i, int b) {
            if (i >= 0 && i < bytes.length) {
                bytes[i] = b;
            }
        }

        void append(int b) {
            if (length < bytes.length) {
                setByte(length, b);
                length++;
            }
        }
    }

    /** What the four formats of nodes hold, and when a node goes from one to the next. */
    private static final class Format {
        static final int LEAST = 1;
        static final int BY_PLACE = 3;
        static final int BY_BYTE = 4;
        private static final int[] MOST_CHILDREN = {0, 4, 16, 48, 256};
        private static final int[] SHRINKS_AT = {0, 0, 3, 12, 40};

        static boolean is(int format) {
            return format >= LEAST && format <= BY_BYTE;
        }

        static int mostChildren(int format) {
            return format >= LEAST && format < MOST_CHILDREN.length ? MOST_CHILDREN[format] : 0;
        }

        static int grown(int format, int children) {
            return format < BY_BYTE && children > mostChildren(format) ? format + 1 : format;
        }

        static int shrunk(int format, int children) {
            boolean shrinks = format > LEAST && format < SHRINKS_AT.length && children <= SHRINKS_AT[format];
            return shrinks ? format - 1 : format;
        }
    }

    /**
     * A node of the tree; its children are a chain by rising bytes.
     * The parents are known so that the tree can be gone through without recursion.
     */
    private static final class Node {
        private final int[] prefix = new int[KEY_BYTES];
        int prefixLength;
        int format;
        boolean hasValue;
        /** 0 without one, as on the page. */
        long value;
        int children;
        /** The byte by which its parent has it. */
        int edge;
        /** 0 when it is new or on none. */
        int page;
        boolean fresh;
        Node parent;
        Node first;
        Node next;
        /** While one tree becomes another one: the node of the other tree that stands for this one. */
        Node twin;

        Node() {
            reset();
        }

        private void reset() {
            prefixLength = 0;
            format = Format.LEAST;
            hasValue = false;
            value = 0;
            children = 0;
            edge = 0;
            page = 0;
            fresh = false;
            parent = null;
            first = null;
            next = null;
        }

        int prefixAt(int i) {
            return i >= 0 && i < prefixLength && i < prefix.length ? prefix[i] : 0;
        }

        private void setPrefixAt(int i, int b) {
            if (i >= 0 && i < prefix.length) {
                prefix[i] = b;
            }
        }

        void appendToPrefix(int b) {
            if (prefixLength < prefix.length) {
                setPrefixAt(prefixLength, b);
                prefixLength++;
            }
        }

        void dropFromPrefix(int bytes) {
            int left = Math.max(prefixLength - bytes, 0);
            for (int i = 0; i < left; i++) {
                setPrefixAt(i, prefixAt(i + bytes));
            }
            prefixLength = left;
        }

        /** Its prefix becomes the whole way from the beginning of its parent's prefix on. */
        void takePrefixOfParent(Node upper) {
            int more = upper.prefixLength + 1;
            int own = prefixLength;
            prefixLength = Math.min(own + more, prefix.length);
            for (int i = own - 1; i >= 0; i--) {
                setPrefixAt(i + more, prefixAt(i));
            }
            setPrefixAt(more - 1, edge);
            for (int i = 0; i < upper.prefixLength; i++) {
                setPrefixAt(i, upper.prefixAt(i));
            }
        }

        /** How many bytes of the prefix are the key's bytes from one on. */
        int matching(Tape key, int from) {
            int same = 0;
            while (same < prefixLength && prefixAt(same) == key.byteAt(from + same)) {
                same++;
            }
            return same;
        }

        void setValue(long v) {
            hasValue = true;
            value = v;
        }

        void loseValue() {
            hasValue = false;
            value = 0;
        }

        /** The last child whose byte is below b, or null. */
        private Node lastBelow(int b) {
            Node last = null;
            for (Node child = first; child != null && child.edge < b; child = child.next) {
                last = child;
            }
            return last;
        }

        /** The first child whose byte is b or above it, or null. */
        Node firstFrom(int b) {
            for (Node child = first; child != null; child = child.next) {
                if (child.edge >= b) {
                    return child;
                }
            }
            return null;
        }

        Node childBy(int b) {
            Node child = firstFrom(b);
            return child != null && child.edge == b ? child : null;
        }

        private void setNextOf(Node last, Node child) {
            if (last == null) {
                first = child;
            } else {
                last.next = child;
            }
        }

        void gain(Node child) {
            Node last = lastBelow(child.edge);
            child.parent = this;
            child.next = last == null ? first : last.next;
            setNextOf(last, child);
            children++;
            format = Format.grown(format, children);
        }

        void lose(Node child) {
            setNextOf(lastBelow(child.edge), child.next);
            children--;
            format = Format.shrunk(format, children);
        }

        /** The other one comes where this one is among the children of its parent. */
        void yieldTo(Node other) {
            other.parent = parent;
            other.edge = edge;
            other.next = next;
            if (parent != null) {
                parent.setNextOf(parent.lastBelow(edge), other);
            }
        }

        /** The way from the root to this node must be written again. */
        void freshen() {
            for (Node up = this; up != null; up = up.parent) {
                up.fresh = true;
                up.page = 0;
            }
        }

        /** The next node when each comes before its children; keys rise in that order, too. */
        Node following() {
            return first != null ? first : behind();
        }

        /** The next node in that order that is not below this one. */
        Node behind() {
            for (Node up = this; up != null; up = up.parent) {
                if (up.next != null) {
                    return up.next;
                }
            }
            return null;
        }

        /** The first of all nodes below this one, and itself, when each comes behind its children. */
        Node lowest() {
            Node low = this;
            for (Node child = first; child != null; child = child.first) {
                low = child;
            }
            return low;
        }

        /** The next node when each comes behind its children. */
        Node above() {
            return next != null ? next.lowest() : parent;
        }

        /** How many bytes lead to it. */
        int lead() {
            int bytes = 0;
            for (Node up = parent; up != null; up = up.parent) {
                bytes += up.prefixLength + 1;
            }
            return bytes;
        }

        int level() {
            int level = 0;
            for (Node up = this; up != null; up = up.parent) {
                level++;
            }
            return level;
        }

        /** The bytes to it and its prefix become the tape's. */
        void spell(Tape tape) {
            tape.length = lead() + prefixLength;
            for (Node up = this; up != null; up = up.parent) {
                int from = up.lead();
                for (int i = 0; i < up.prefixLength; i++) {
                    tape.setByte(from + i, up.prefixAt(i));
                }
                if (up.parent != null) {
                    tape.setByte(from - 1, up.edge);
                }
            }
        }

        /** Whether the document lets a node stand as this one does. */
        boolean hasReason() {
            if (hasValue || children >= 2) {
                return true;
            }
            return parent == null && children == 0 && prefixLength == 0 && format == Format.LEAST;
        }

        private static Node twinOf(Node node) {
            return node == null ? null : node.twin;
        }

        /** Becomes what another tree's node is, with the twins of the nodes round it. */
        void mirror(Node other) {
            prefixLength = other.prefixLength;
            for (int i = 0; i < prefixLength; i++) {
                setPrefixAt(i, other.prefixAt(i));
            }
            format = other.format;
            hasValue = other.hasValue;
            value = other.value;
            children = other.children;
            edge = other.edge;
            page = other.page;
            fresh = other.fresh;
            parent = twinOf(other.parent);
            first = twinOf(other.first);
            next = twinOf(other.next);
        }
    }

    /** The nodes by their bytes, with as many more in stock as the document lets a tree have. */
    private static final class Tree {
        private final Node[] stock = new Node[MOST_NODES];
        /** A chain of those nodes of the stock that are not in the tree. */
        private Node spare;
        Node root;
        int nodes;
        int keys;
        /** Where the way of the key that was sought ends: a node, so many bytes of its prefix, and of the key. */
        private Node spot;
        private int matched;
        private int used;

        Tree() {
            for (int i = 0; i < stock.length; i++) {
                stock[i] = new Node();
            }
            root = stock[0];
            clear();
        }

        /** A tree without keys, whose root is on no page. */
        void clear() {
            spare = null;
            for (Node node : stock) {
                if (node != root) {
                    node.next = spare;
                    spare = node;
                }
            }
            root.reset();
            spot = root;
            nodes = 1;
            keys = 0;
        }

        /** A node more, or null when there are as many as there may be. */
        Node take() {
            Node node = spare;
            if (node != null) {
                spare = node.next;
                node.reset();
                nodes++;
            }
            return node;
        }

        private void release(Node node) {
            node.next = spare;
            spare = node;
            nodes--;
        }

        private void seek(Tape key) {
            used = 0;
            for (Node node = root; node != null; node = stepFrom(node, key)) {
                spot = node;
                matched = node.matching(key, used);
                used += matched;
            }
        }

        /** The child in which the key goes on, or null where its way ends. */
        private Node stepFrom(Node node, Tape key) {
            if (matched < node.prefixLength || used >= key.length) {
                return null;
            }
            Node child = node.childBy(key.byteAt(used));
            if (child != null) {
                used++;
            }
            return child;
        }

        /** The node whose value is the key's, or null. */
        Node nodeOf(Tape key) {
            seek(key);
            boolean there = used == key.length && matched == spot.prefixLength && spot.hasValue;
            return there ? spot : null;
        }

        int store(Tape key, long v) {
            if (keys == 0) {
                return storeFirst(key, v);
            }
            seek(key);
            if (matched < spot.prefixLength) {
                return storeByCut(key, v);
            }
            if (used < key.length) {
                return storeByChild(key, v);
            }
            return storeHere(v);
        }

        private int storeFirst(Tape key, long v) {
            for (int i = 0; i < key.length; i++) {
                root.appendToPrefix(key.byteAt(i));
            }
            spot = root;
            return storeHere(v);
        }

        private int storeHere(long v) {
            boolean had = spot.hasValue;
            if (had && spot.value == v) {
                return 0;
            }
            spot.setValue(v);
            spot.freshen();
            if (had) {
                return 0;
            }
            keys++;
            return 1;
        }

        private int storeByChild(Tape key, long v) {
            Node leaf = take();
            if (leaf == null) {
                return FULL;
            }
            hang(leaf, spot, key, v);
            return 1;
        }

        private int storeByCut(Tape key, long v) {
            boolean ends = used == key.length;
            int more = ends ? 1 : 2;
            if (nodes + more > MOST_NODES) {
                return FULL;
            }
            Node upper = take();
            Node leaf = ends ? null : take();
            if (upper == null) {
                return FULL;
            }
            insertAbove(spot, upper);
            if (leaf != null) {
                hang(leaf, upper, key, v);
            } else {
                upper.setValue(v);
                keys++;
            }
            return 1;
        }

        /** A new child with the first byte of the key that is left as its byte, the others as its prefix. */
        private void hang(Node leaf, Node parent, Tape key, long v) {
            leaf.edge = key.byteAt(used);
            for (int i = used + 1; i < key.length; i++) {
                leaf.appendToPrefix(key.byteAt(i));
            }
            leaf.setValue(v);
            parent.gain(leaf);
            leaf.freshen();
            keys++;
        }

        /** What was matched of a node's prefix goes to a new node above it. */
        private void insertAbove(Node lower, Node upper) {
            for (int i = 0; i < matched; i++) {
                upper.appendToPrefix(lower.prefixAt(i));
            }
            putInPlace(lower, upper);
            lower.edge = lower.prefixAt(matched);
            lower.dropFromPrefix(matched + 1);
            upper.gain(lower);
            lower.freshen();
        }

        private void putInPlace(Node old, Node other) {
            old.yieldTo(other);
            if (old == root) {
                root = other;
            }
        }

        int drop(Tape key) {
            Node node = nodeOf(key);
            if (node == null) {
                return 0;
            }
            node.loseValue();
            node.freshen();
            keys--;
            if (node.children > 0) {
                join(node);
            } else if (node.parent != null) {
                detach(node, node.parent);
            } else {
                node.prefixLength = 0;
                node.format = Format.LEAST;
            }
            return 1;
        }

        private void detach(Node leaf, Node parent) {
            parent.lose(leaf);
            release(leaf);
            join(parent);
        }

        /** A node without a value and with one child becomes one with that child. */
        private void join(Node upper) {
            Node lower = upper.first;
            if (upper.hasValue || upper.children != 1 || lower == null) {
                return;
            }
            lower.takePrefixOfParent(upper);
            putInPlace(upper, lower);
            release(upper);
            lower.freshen();
        }

        private static int keysBetween(Node from, Node to) {
            int found = 0;
            for (Node node = from; node != null && node != to; node = node.following()) {
                found += node.hasValue ? 1 : 0;
            }
            return found;
        }

        int keysUnder(Tape key) {
            seek(key);
            return used < key.length ? 0 : keysBetween(spot, spot.behind());
        }

        int keysAhead(Tape key) {
            seek(key);
            return keysBetween(root, firstNotAhead(key));
        }

        /** The first node, each coming before its children, whose keys do not come before the one sought. */
        private Node firstNotAhead(Tape key) {
            if (used >= key.length) {
                return spot;
            }
            int b = key.byteAt(used);
            if (matched < spot.prefixLength) {
                return b < spot.prefixAt(matched) ? spot : spot.behind();
            }
            Node child = spot.firstFrom(b);
            return child != null ? child : spot.behind();
        }

        /** The node with the i-th key, or null. */
        Node keyNumber(int i) {
            int left = i;
            for (Node node = root; node != null && left >= 0; node = node.following()) {
                if (node.hasValue && left == 0) {
                    return node;
                }
                left -= node.hasValue ? 1 : 0;
            }
            return null;
        }

        /** The n-th node, each coming before its children, or null. */
        Node nodeNumber(int n) {
            int left = n;
            for (Node node = root; node != null && left >= 0; node = node.following()) {
                if (left == 0) {
                    return node;
                }
                left--;
            }
            return null;
        }

        int nodesOfFormat(int format) {
            int found = 0;
            for (Node node = root; node != null; node = node.following()) {
                found += node.format == format ? 1 : 0;
            }
            return found;
        }

        int freshNodes() {
            int found = 0;
            for (Node node = root; node != null; node = node.following()) {
                found += node.fresh ? 1 : 0;
            }
            return found;
        }

        int nodesOnPages() {
            int found = 0;
            for (Node node = root; node != null; node = node.following()) {
                found += node.page != 0 ? 1 : 0;
            }
            return found;
        }

        int depth() {
            int deepest = 0;
            for (Node node = root; node != null; node = node.following()) {
                deepest = Math.max(deepest, node.level());
            }
            return deepest;
        }

        /** All nodes are written: nothing is new. */
        void settle() {
            for (Node node = root; node != null; node = node.following()) {
                node.fresh = false;
            }
        }

        void become(Tree other) {
            clear();
            for (Node node = other.root; node != null; node = node.following()) {
                node.twin = node == other.root ? root : take();
            }
            for (Node node = other.root; node != null; node = node.following()) {
                if (node.twin != null) {
                    node.twin.mirror(node);
                }
            }
            keys = other.keys;
        }
    }

    /** The bytes of one page on the way to the disk or from it. */
    private static final class Row {
        private static final int SUM_AT = 504;
        private static final long SUM_FACTOR = 0x100000001B3L;
        private static final int SUM_TURN = 9;
        private final byte[] bytes = new byte[PAGE_BYTES];

        int at(int i) {
            return i >= 0 && i < bytes.length ? bytes[i] & 255 : 0;
        }

        void set(int i, int b) {
            if (i >= 0 && i < bytes.length) {
                bytes[i] = (byte) b;
            }
        }

        long longAt(int i) {
            long v = 0;
            for (int k = 0; k < 8; k++) {
                v = v << 8 | at(i + k);
            }
            return v;
        }

        void setLong(int i, long v) {
            if (i < 0 || i > bytes.length - 8) {
                return;
            }
            for (int k = 0; k < 8; k++) {
                bytes[i + k] = (byte) (v >>> 8 * (7 - k));
            }
        }

        void wipe() {
            for (int i = 0; i < bytes.length; i++) {
                bytes[i] = 0;
            }
        }

        void seal() {
            long sum = 0;
            for (int i = 0; i < SUM_AT && i < bytes.length; i++) {
                long product = (sum ^ (bytes[i] & 255)) * SUM_FACTOR;
                sum = product << SUM_TURN | product >>> 64 - SUM_TURN;
            }
            setLong(SUM_AT, sum);
        }

        boolean same(Row other) {
            for (int i = 0; i < bytes.length && i < other.bytes.length; i++) {
                if (bytes[i] != other.bytes[i]) {
                    return false;
                }
            }
            return true;
        }
    }

    /** The pages, and the power with which they are written. */
    private static final class Disk {
        static final int STAYS = -1;
        private static final int TORN = 255;
        private final byte[] bytes = new byte[PAGES * PAGE_BYTES];
        private int writesLeft = STAYS;
        private int tear = 0;

        static boolean has(int page, int i) {
            return page >= 0 && page < PAGES && i >= 0 && i < PAGE_BYTES;
        }

        int byteAt(int page, int i) {
            return has(page, i) ? bytes[page * PAGE_BYTES + i] & 255 : 0;
        }

        void setByte(int page, int i, int b) {
            if (has(page, i)) {
                bytes[page * PAGE_BYTES + i] = (byte) b;
            }
        }

        void setPower(int writes, int bytesKept) {
            writesLeft = writes;
            tear = bytesKept;
        }

        void read(int page, Row row) {
            if (has(page, 0)) {
                System.arraycopy(bytes, page * PAGE_BYTES, row.bytes, 0, PAGE_BYTES);
            }
        }

        /** Whether power stayed. */
        boolean write(int page, Row row) {
            boolean goes = writesLeft == 0;
            if (has(page, 0)) {
                System.arraycopy(row.bytes, 0, bytes, page * PAGE_BYTES, goes ? tear : PAGE_BYTES);
            }
            if (goes) {
                setByte(page, 0, TORN);
            }
            if (writesLeft > STAYS) {
                writesLeft--;
            }
            return !goes;
        }
    }

    /** How a head stands on its page. */
    private static final class HeadPage {
        private static final int MARK = 1;
        private static final int MARK_AT = 0;
        private static final int SEQUENCE_AT = 1;
        private static final int ROOT_AT = 9;
        private static final int KEYS_AT = 10;

        static void fill(Row row, long sequence, int rootPage, int keys) {
            row.wipe();
            row.set(MARK_AT, MARK);
            row.setLong(SEQUENCE_AT, sequence);
            row.set(ROOT_AT, rootPage);
            row.set(KEYS_AT, keys >> 8);
            row.set(KEYS_AT + 1, keys & 255);
            row.seal();
        }

        static long sequence(Row row) {
            return row.longAt(SEQUENCE_AT);
        }

        static int rootPage(Row row) {
            return row.at(ROOT_AT);
        }

        static int keys(Row row) {
            return row.at(KEYS_AT) << 8 | row.at(KEYS_AT + 1);
        }
    }

    /** How a node stands on its page. */
    private static final class NodePage {
        static final int FORMAT_AT = 0;
        static final int HAS_VALUE_AT = 1;
        static final int VALUE_AT = 2;
        static final int PREFIX_LENGTH_AT = 10;
        static final int PREFIX_AT = 11;
        static final int CHILDREN_AT = 23;
        static final int TABLE_AT = 24;
        static final int PLACED_AT = TABLE_AT + BYTE_VALUES;

        static void fill(Row row, Node node) {
            row.wipe();
            row.set(FORMAT_AT, node.format);
            row.set(HAS_VALUE_AT, node.hasValue ? 1 : 0);
            row.setLong(VALUE_AT, node.value);
            row.set(PREFIX_LENGTH_AT, node.prefixLength);
            for (int i = 0; i < node.prefixLength; i++) {
                row.set(PREFIX_AT + i, node.prefixAt(i));
            }
            row.set(CHILDREN_AT, node.children);
            fillTable(row, node);
            row.seal();
        }

        private static void fillTable(Row row, Node node) {
            int place = 0;
            for (Node child = node.first; child != null; child = child.next) {
                if (node.format == Format.BY_BYTE) {
                    row.set(TABLE_AT + child.edge, child.page);
                } else if (node.format == Format.BY_PLACE) {
                    row.set(TABLE_AT + child.edge, place + 1);
                    row.set(PLACED_AT + place, child.page);
                } else {
                    row.set(TABLE_AT + place, child.edge);
                    row.set(TABLE_AT + Format.mostChildren(node.format) + place, child.page);
                }
                place++;
            }
        }
    }

    /** Writes trees to the disk and reads them. */
    private static final class Store {
        final Disk disk = new Disk();
        private final Row row = new Row();
        /** What would be written for what was read: a page is right only if it is just that. */
        private final Row again = new Row();
        private final boolean[] taken = new boolean[PAGES];

        /** Whether power stayed. */
        boolean save(Tree tree, Tree committed, int sequence) {
            markPagesOf(committed);
            for (Node node = tree.root.lowest(); node != null; node = node.above()) {
                if (node.fresh && !saveNode(node)) {
                    return false;
                }
            }
            HeadPage.fill(row, sequence, tree.root.page, tree.keys);
            return disk.write(sequence % HEADS, row);
        }

        private boolean saveNode(Node node) {
            node.page = takeLeastPage();
            NodePage.fill(row, node);
            return disk.write(node.page, row);
        }

        private void freeAllPages() {
            for (int page = 0; page < taken.length; page++) {
                taken[page] = false;
            }
        }

        private void markPagesOf(Tree tree) {
            freeAllPages();
            for (Node node = tree.root; node != null; node = node.following()) {
                takePage(node.page);
            }
        }

        /** Whether it is a page for nodes that was free till now. */
        private boolean takePage(int page) {
            if (page < HEADS || page >= taken.length || taken[page]) {
                return false;
            }
            taken[page] = true;
            return true;
        }

        private int takeLeastPage() {
            for (int page = HEADS; page < taken.length; page++) {
                if (takePage(page)) {
                    return page;
                }
            }
            return NONE;
        }

        /** The sequence of the tree that was read; 0, and a tree without keys, when none is right. */
        int load(Tree tree) {
            int even = rightSequence(0);
            int odd = rightSequence(1);
            int later = even > odd ? 0 : 1;
            if (Math.max(even, odd) > 0 && loadBy(later, tree)) {
                return Math.max(even, odd);
            }
            if (Math.min(even, odd) > 0 && loadBy(1 - later, tree)) {
                return Math.min(even, odd);
            }
            tree.clear();
            return 0;
        }

        /** The sequence of a head, 0 when that is not right. */
        private int rightSequence(int page) {
            disk.read(page, row);
            long sequence = HeadPage.sequence(row);
            if (sequence < 1 || sequence > LATEST_SEQUENCE || sequence % HEADS != page) {
                return 0;
            }
            HeadPage.fill(again, sequence, HeadPage.rootPage(row), HeadPage.keys(row));
            return HeadPage.rootPage(row) >= HEADS && row.same(again) ? (int) sequence : 0;
        }

        private boolean loadBy(int head, Tree tree) {
            disk.read(head, row);
            int keys = HeadPage.keys(row);
            tree.clear();
            freeAllPages();
            tree.root.page = HeadPage.rootPage(row);
            takePage(tree.root.page);
            for (Node node = tree.root; node != null; node = node.following()) {
                if (!loadNode(node, tree)) {
                    return false;
                }
            }
            return tree.keys == keys;
        }

        /** Reads a node, and makes its children, which are read when their turn comes. */
        private boolean loadNode(Node node, Tree tree) {
            disk.read(node.page, row);
            node.format = row.at(NodePage.FORMAT_AT);
            int most = Format.mostChildren(node.format);
            int prefixLength = row.at(NodePage.PREFIX_LENGTH_AT);
            if (!Format.is(node.format) || row.at(NodePage.CHILDREN_AT) > most
                || node.lead() + prefixLength > KEY_BYTES) {
                return false;
            }
            for (int i = 0; i < prefixLength; i++) {
                node.appendToPrefix(row.at(NodePage.PREFIX_AT + i));
            }
            if (row.at(NodePage.HAS_VALUE_AT) == 1) {
                node.setValue(row.longAt(NodePage.VALUE_AT));
                tree.keys++;
            }
            boolean hung = node.format < Format.BY_PLACE ? hangListed(node, tree, most) : hangMapped(node, tree);
            if (!hung || node.value == NO || !node.hasReason()) {
                return false;
            }
            NodePage.fill(again, node);
            return row.same(again);
        }

        /** Makes the children of a node whose page has their bytes, and then their pages. */
        private boolean hangListed(Node node, Tree tree, int most) {
            Node last = null;
            int children = row.at(NodePage.CHILDREN_AT);
            for (int place = 0; place < children; place++) {
                int edge = row.at(NodePage.TABLE_AT + place);
                Node child = tree.take();
                if (child == null || last != null && edge <= last.edge) {
                    return false;
                }
                if (!hangBehind(last, child, node, edge, row.at(NodePage.TABLE_AT + most + place))) {
                    return false;
                }
                last = child;
            }
            return true;
        }

        /** Makes the children of a node whose page has an entry for every byte. */
        private boolean hangMapped(Node node, Tree tree) {
            Node last = null;
            for (int edge = 0; edge < BYTE_VALUES; edge++) {
                int entry = row.at(NodePage.TABLE_AT + edge);
                if (entry == 0) {
                    continue;
                }
                int page = node.format == Format.BY_BYTE ? entry : row.at(NodePage.PLACED_AT + node.children);
                Node child = tree.take();
                if (child == null || !hangBehind(last, child, node, edge, page)) {
                    return false;
                }
                last = child;
            }
            return true;
        }

        /** Whether the child's page is one that no other node has. */
        private boolean hangBehind(Node last, Node child, Node parent, int edge, int page) {
            child.edge = edge;
            child.page = page;
            child.parent = parent;
            parent.setNextOf(last, child);
            parent.children++;
            return takePage(page);
        }
    }
}
