import java.util.Random;
import java.util.TreeMap;

/** Promises 5 to 19 in runs of up to 512 calls, each answer compared with that of the model. */
final class ModelTest {
    private static final int CALLS = 512;

    private final Random random;
    private final RadixPages x = new RadixPages();
    private final Model model = new Model();
    private final StringBuilder told = new StringBuilder();
    private final int letters;
    private final int longest;
    private final int keep;
    private int calls = 0;
    private boolean right = true;

    private ModelTest(long seed) {
        random = new Random(seed);
        letters = random.nextInt(4) == 0 ? 256 : 2 + random.nextInt(20);
        longest = random.nextInt(3) == 0 ? 1 : 1 + random.nextInt(13);
        keep = 1 + random.nextInt(6);
    }

    public static void main(String[] args) {
        int runs = args.length > 0 ? Integer.parseInt(args[0]) : 3000;
        for (int seed = 0; seed < runs; seed++) {
            ModelTest run = new ModelTest(seed);
            if (seed % 3 == 0) {
                run.craft();
            }
            run.go();
            Checks.due("run " + seed + " is right:" + (run.right ? "" : run.told), run.right ? 1 : 0, 1);
            if (!run.right) {
                break;
            }
        }
        Checks.end();
    }

    private void check(String call, long got, long want) {
        calls++;
        told.append('\n').append(call).append(" -> ").append(got);
        if (got != want) {
            told.append(", due is ").append(want);
            right = false;
        }
    }

    private void go() {
        while (right && calls < CALLS - 60) {
            step(random.nextInt(20));
        }
        while (right && calls < CALLS - 2) {
            look();
        }
    }

    private void step(int what) {
        switch (what) {
            case 0, 1, 2, 3, 4, 5 -> {
                tape(key());
                putOrRemove();
            }
            case 6, 7 -> {
                if (model.count(0) > 0) {
                    int i = random.nextInt((int) model.count(0));
                    check("nth(" + i + ")", x.nth(i), model.nth(i));
                }
                check("remove()", x.remove(), model.remove());
            }
            case 8, 9 -> {
                check("commit()", x.commit(), model.commit());
                if (model.down) {
                    start();
                }
            }
            case 10 -> {
                if (random.nextInt(3) == 0) {
                    check("back()", x.back(), model.back());
                }
            }
            case 11 -> {
                int n = random.nextInt(8) - 1;
                int tear = random.nextInt(2) == 0 ? random.nextInt(512) : random.nextInt(2) * 511;
                check("power(" + n + ", " + tear + ")", x.power(n, tear), model.power(n, tear));
            }
            case 12 -> {
                if (random.nextInt(3) == 0) {
                    check("halt()", x.halt(), model.halt());
                    if (random.nextInt(2) == 0) {
                        spoil();
                    }
                    start();
                }
            }
            default -> look();
        }
    }

    private void putOrRemove() {
        if (random.nextInt(keep + 1) == 0) {
            check("remove()", x.remove(), model.remove());
        } else {
            long v = random.nextInt(3) == 0 ? random.nextLong() : random.nextInt(3);
            check("put(" + v + ")", x.put(v), model.put(v));
        }
    }

    private void start() {
        if (random.nextInt(4) == 0) {
            look();
        }
        check("start()", x.start(), model.start());
    }

    private String key() {
        StringBuilder key = new StringBuilder();
        int length = longest == 1 ? 1 : random.nextInt(longest + 1);
        for (int i = 0; i < length; i++) {
            key.append((char) (random.nextInt(letters) * 255 / (letters - 1)));
        }
        return key.toString();
    }

    private void tape(String key) {
        check("cut(0)", x.cut(0), model.tape.length());
        model.tape = "";
        for (int from = 0; from < key.length(); from += 8) {
            String part = key.substring(from, Math.min(key.length(), from + 8));
            long w = random.nextLong();
            for (char c : part.toCharArray()) {
                w = w << 8 | c;
            }
            model.tape += part;
            check("type(" + w + ", " + part.length() + ")", x.type(w, part.length()), model.tape.length());
        }
    }

    private void look() {
        int n = random.nextInt((int) Math.max(model.count(1), 0) + 2) - (random.nextInt(20) == 0 ? 1 : 0);
        int what = random.nextInt(12);
        int page = random.nextInt(3) == 0 ? random.nextInt(256) : random.nextInt(8);
        int i = random.nextInt(2) == 0 ? random.nextInt(512) : random.nextInt(32);
        switch (random.nextInt(10)) {
            case 0 -> check("get()", x.get(), model.get());
            case 1 -> check("with()", x.with(), model.with());
            case 2 -> check("before()", x.before(), model.before());
            case 3 -> {
                check("nth(" + n + ")", x.nth(n), model.nth(n));
                check("tapeAt(" + what + ")", x.tapeAt(what), what < model.tape.length() ? model.tape.charAt(what) : -1);
            }
            case 4, 5 -> check("count(" + what + ")", x.count(what), model.count(what));
            case 6, 7 -> check("node(" + n + ", " + what % 7 + ")", x.node(n, what % 7), model.node(n, what % 7));
            default -> check("octet(" + page + ", " + i + ")", x.octet(page, i), model.pages[page][i]);
        }
    }

    private void poke(int page, int i, int mask) {
        model.pages[page][i] ^= mask & 255;
        check("poke(" + page + ", " + i + ", " + mask + ")", x.poke(page, i, mask), model.pages[page][i]);
    }

    private void seal(int page) {
        long sum = Checks.sum(model.pages[page]);
        for (int i = 0; i < 8; i++) {
            int b = (int) (sum >>> 56 - 8 * i) & 255;
            if (model.pages[page][504 + i] != b) {
                poke(page, 504 + i, model.pages[page][504 + i] ^ b);
            }
        }
    }

    /** A byte of a page that is used is changed, and mostly the sum mended. */
    private void spoil() {
        int page = random.nextInt(3) == 0 ? random.nextInt(2) : 2 + random.nextInt(12);
        int from = random.nextInt(4);
        int i = from == 0 ? random.nextInt(512) : from == 1 ? random.nextInt(12) : from == 2 ? 23 + random.nextInt(20) : 10;
        if (random.nextInt(6) == 0 && model.pages[page][0] == 4) {
            i = 24 + random.nextInt(256);
        }
        poke(page, i, random.nextInt(3) == 0 ? random.nextInt() : 1 << random.nextInt(8));
        if (random.nextInt(5) > 0) {
            seal(page);
        }
    }

    /** A tree of formats as they are let, not as they come about, is laid on the pages by pokes. */
    private void craft() {
        TreeMap<String, Long> keys = new TreeMap<>();
        int wanted = random.nextInt(7);
        for (int i = 0; i < wanted; i++) {
            keys.put(key(), (long) random.nextInt(5));
        }
        Model.N root = wanted == 0 ? new Model.N() : build(keys, 0);
        int[] page = {2 + random.nextInt(20)};
        number(root, page);
        check("halt()", x.halt(), model.halt());
        lay(root);
        int sequence = 1 + random.nextInt(5);
        int[] head = Model.encodeHead(random.nextInt(6) == 0 ? 1000000000L : sequence, root.page, keys.size());
        layRow(random.nextInt(9) == 0 ? random.nextInt(2) : head[8] % 2, head);
        if (random.nextInt(3) == 0) {
            spoil();
        }
        check("start()", x.start(), model.start());
    }

    private Model.N build(TreeMap<String, Long> keys, int lead) {
        Model.N n = new Model.N();
        String first = keys.firstKey();
        String last = keys.lastKey();
        int end = lead;
        while (end < first.length() && end < last.length() && first.charAt(end) == last.charAt(end)) {
            end++;
        }
        n.prefix = first.substring(lead, end);
        TreeMap<Integer, TreeMap<String, Long>> parts = new TreeMap<>();
        for (String key : keys.keySet()) {
            if (key.length() == end) {
                n.value = keys.get(key);
            } else {
                parts.computeIfAbsent((int) key.charAt(end), b -> new TreeMap<>()).put(key, keys.get(key));
            }
        }
        for (int b : parts.keySet()) {
            n.kids.put(b, build(parts.get(b), end + 1));
        }
        int least = n.kids.size() > 16 ? 3 : n.kids.size() > 4 ? 2 : 1;
        n.format = least + random.nextInt(5 - least);
        return n;
    }

    private void number(Model.N n, int[] page) {
        n.page = page[0];
        page[0] += 1 + random.nextInt(3);
        for (Model.N kid : n.kids.values()) {
            number(kid, page);
        }
    }

    private void lay(Model.N n) {
        layRow(n.page, Model.encode(n));
        for (Model.N kid : n.kids.values()) {
            lay(kid);
        }
    }

    private void layRow(int page, int[] row) {
        for (int i = 0; i < 512; i++) {
            if (model.pages[page][i] != row[i]) {
                poke(page, i, model.pages[page][i] ^ row[i]);
            }
        }
    }
}
