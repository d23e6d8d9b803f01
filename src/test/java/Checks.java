/** What the tests of the project share: counting wrong answers, and short ways to use an object. */
final class Checks {
    static final int NONE = RadixPages.NONE, FULL = RadixPages.FULL, LOST = RadixPages.LOST, DOWN = RadixPages.DOWN;
    static final long NO = RadixPages.NO;
    static final int PAGE_BYTES = 512;
    static final int SUM_AT = 504;

    interface Call {
        long answer();
    }

    private static int wrong = 0;
    private static String sentence = "";

    private Checks() {
    }

    /** From here on answers are due by these words of the document. */
    static void by(String words) {
        sentence = words;
    }

    private static void tellWrong(String what) {
        wrong++;
        System.out.println(what);
        if (!sentence.isEmpty()) {
            System.out.println("    by: " + sentence);
        }
    }

    static void due(String call, long got, long want) {
        if (got != want) {
            tellWrong(call + " answered " + got + ", due is " + want);
        }
    }

    static void due(String call, String got, String want) {
        if (!got.equals(want)) {
            tellWrong(call + " is " + got + ", due is " + want);
        }
    }

    static void throwsIt(String call, Class<? extends RuntimeException> want, Call it) {
        String got;
        try {
            got = "answered " + it.answer();
        } catch (RuntimeException e) {
            if (e.getClass() == want) {
                return;
            }
            got = "threw " + e;
        }
        tellWrong(call + " " + got + ", due is " + want.getSimpleName());
    }

    static void end() {
        System.out.println(wrong == 0 ? "all answers are as due" : wrong + " answers are not as due");
        if (wrong != 0) {
            System.exit(1);
        }
    }

    /** The tape becomes the text, a byte a character. */
    static void tape(RadixPages x, String key) {
        x.cut(0);
        for (int from = 0; from < key.length(); from += 8) {
            int n = Math.min(8, key.length() - from);
            long w = 0;
            for (int i = 0; i < n; i++) {
                w = w << 8 | key.charAt(from + i);
            }
            x.type(w, n);
        }
    }

    static String tapeOf(RadixPages x) {
        StringBuilder text = new StringBuilder();
        for (int i = 0; x.tapeAt(i) != NONE; i++) {
            text.append((char) x.tapeAt(i));
        }
        return text.toString();
    }

    static int put(RadixPages x, String key, long v) {
        tape(x, key);
        return x.put(v);
    }

    static int remove(RadixPages x, String key) {
        tape(x, key);
        return x.remove();
    }

    static long get(RadixPages x, String key) {
        tape(x, key);
        return x.get();
    }

    static int with(RadixPages x, String key) {
        tape(x, key);
        return x.with();
    }

    static int before(RadixPages x, String key) {
        tape(x, key);
        return x.before();
    }

    /** One-byte keys, each with its byte as value: three calls a key. */
    static void putBytes(RadixPages x, int from, int to) {
        for (int b = from; b < to; b++) {
            due("put of byte " + b, put(x, text(b), b), 1);
        }
    }

    /** What node(n, 0), node(n, 1), .. are to answer. */
    static void dueNode(RadixPages x, int n, int... want) {
        for (int what = 0; what < want.length; what++) {
            due("node(" + n + ", " + what + ")", x.node(n, what), want[what]);
        }
    }

    /** What count(0), count(1), .. are to answer. */
    static void dueCounts(RadixPages x, int... want) {
        for (int what = 0; what < want.length; what++) {
            due("count(" + what + ")", x.count(what), want[what]);
        }
    }

    static String text(int... bytes) {
        StringBuilder text = new StringBuilder();
        for (int b : bytes) {
            text.append((char) b);
        }
        return text.toString();
    }

    /** Keys of seven bytes 0 or 1: a tree of n of them has 2 * n - 1 nodes, after 3 * n calls. */
    static String bits(int i) {
        StringBuilder text = new StringBuilder();
        for (int k = 6; k >= 0; k--) {
            text.append((char) (i >> k & 1));
        }
        return text.toString();
    }

    static void putBits(RadixPages x, int n) {
        for (int i = 0; i < n; i++) {
            due("put of key " + i, put(x, bits(i), i), 1);
        }
    }

    static int[] pageOf(RadixPages x, int page) {
        int[] row = new int[PAGE_BYTES];
        for (int i = 0; i < PAGE_BYTES; i++) {
            row[i] = x.octet(page, i);
        }
        return row;
    }

    static long sum(int[] row) {
        long s = 0;
        for (int i = 0; i < SUM_AT; i++) {
            s = Long.rotateLeft((s ^ row[i]) * 0x100000001B3L, 9);
        }
        return s;
    }

    static void seal(int[] row) {
        setLong(row, SUM_AT, sum(row));
    }

    static void setLong(int[] row, int from, long v) {
        for (int i = 0; i < 8; i++) {
            row[from + i] = (int) (v >>> 56 - 8 * i) & 255;
        }
    }

    static long longAt(int[] row, int from) {
        long v = 0;
        for (int i = 0; i < 8; i++) {
            v = v << 8 | row[from + i];
        }
        return v;
    }

    /** Makes a page what the row is, with no more pokes than it needs. */
    static void pokeAll(RadixPages x, int page, int[] old, int[] row) {
        for (int i = 0; i < PAGE_BYTES; i++) {
            if (old[i] != row[i]) {
                due("poke(" + page + ", " + i + ")", x.poke(page, i, old[i] ^ row[i]), row[i]);
            }
        }
    }

    /** Looks at half a page, 0 or 1, because an object is good for 512 calls alone. */
    static void dueHalf(String what, RadixPages x, int page, int half, int[] want) {
        for (int i = 256 * half; i < 256 * half + 256; i++) {
            due(what + ": octet(" + page + ", " + i + ")", x.octet(page, i), want[i]);
        }
    }
}
