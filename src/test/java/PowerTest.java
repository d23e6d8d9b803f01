/** Promises 15, 16, 17: power, start, halt, and what is left of pages that were being written. */
final class PowerTest {
    public static void main(String[] args) {
        for (int write = 0; write < 4; write++) {
            for (int tear = 0; tear < 512; tear += tear < 30 || tear > 500 ? 1 : 47) {
                tornWrite(write, tear);
            }
        }
        wholeHead();
        writesOfManyCommits();
        powerThatStays();
        halting();
        wrongInputs();
        Checks.end();
    }

    private static RadixPages committed() {
        RadixPages x = new RadixPages();
        Checks.put(x, "aa", 1);
        Checks.put(x, "ab", 2);
        x.commit();
        return x;
    }

    /** The batch of "b" has three nodes, on pages 5, 6, 7, and the head on page 0. */
    private static void tornWrite(int write, int tear) {
        String name = "power(" + write + ", " + tear + "): ";
        RadixPages whole = committed();
        Checks.put(whole, "b", 4);
        Checks.due(name + "commit with power", whole.commit(), 4);
        int[] pages = {5, 6, 7, 0};
        int torn = pages[write];

        RadixPages x = committed();
        Checks.due(name + "power", x.power(write, tear), 1);
        Checks.put(x, "b", 4);
        Checks.due(name + "commit", x.commit(), Checks.LOST);
        Checks.due(name + "commit when down", x.commit(), Checks.DOWN);
        Checks.due(name + "byte 0", x.octet(torn, 0), 255);
        for (int i = 1; i < 512; i += i < 30 || i > 500 ? 1 : 7) {
            int want = i < tear ? whole.octet(torn, i) : 0;
            Checks.due(name + "byte " + i, x.octet(torn, i), want);
        }
        for (int later = write + 1; later < 4; later++) {
            Checks.due(name + "a later page", x.octet(pages[later], 0), 0);
        }
        for (int earlier = 0; earlier < write; earlier++) {
            Checks.due(name + "an earlier page", x.octet(pages[earlier], 511), whole.octet(pages[earlier], 511));
        }
        Checks.due(name + "start", x.start(), 1);
        Checks.due(name + "start again", x.start(), Checks.NONE);
        Checks.due(name + "get of the batch", x.get(), Checks.NO);
        Checks.due(name + "get of before", Checks.get(x, "ab"), 2);
        Checks.due(name + "nothing is new", x.count(6), 0);
        Checks.due(name + "the root's page", x.count(9), 4);
        Checks.put(x, "b", 5);
        Checks.due(name + "power stays then", x.commit(), 4);
        Checks.due(name + "sequence", x.count(8), 2);
    }

    private static void wholeHead() {
        RadixPages x = committed();
        x.power(4, 0);
        Checks.put(x, "b", 4);
        Checks.due("power goes behind the head", x.commit(), 4);
        x.halt();
        Checks.due("start", x.start(), 2);
        Checks.due("get", x.get(), 4);
        Checks.put(x, "b", 5);
        Checks.due("power stays then", x.commit(), 3);
    }

    private static void writesOfManyCommits() {
        RadixPages x = committed();
        x.power(5, 511);
        Checks.put(x, "aa", 7);
        Checks.due("writes 0 to 2", x.commit(), 3);
        Checks.due("no write", x.commit(), 0);
        x.poke(200, 0, 1);
        Checks.put(x, "aa", 8);
        Checks.due("writes 3 to 5", x.commit(), Checks.LOST);
        Checks.due("torn head", x.octet(1, 0), 255);
        Checks.due("torn head's sequence", x.octet(1, 8), 3);
        Checks.due("start", x.start(), 2);
        Checks.due("get", x.get(), 7);
    }

    private static void powerThatStays() {
        RadixPages x = committed();
        x.power(0, 5);
        Checks.due("power(-1, 0)", x.power(-1, 0), 1);
        Checks.put(x, "aa", 7);
        Checks.due("commit", x.commit(), 3);
        x.power(1000, 5);
        Checks.put(x, "aa", 8);
        Checks.due("commit long before", x.commit(), 3);
        x.power(3, 5);
        x.power(0, 9);
        Checks.put(x, "aa", 9);
        Checks.due("the latest power counts", x.commit(), Checks.LOST);
    }

    private static void halting() {
        RadixPages x = new RadixPages();
        Checks.due("start when not down", x.start(), Checks.NONE);
        Checks.put(x, "a", 1);
        Checks.due("halt", x.halt(), 1);
        Checks.due("halt when down", x.halt(), Checks.DOWN);
        Checks.due("count when down", x.count(0), Checks.DOWN);
        Checks.due("start with no head", x.start(), 0);
        Checks.dueCounts(x, 0, 1, 1, 0, 0, 0, 0, 254, 0, 0, 1);
        Checks.due("commit of nothing", x.commit(), 0);
        Checks.put(x, "a", 1);
        x.commit();
        Checks.put(x, "b", 1);
        x.power(0, 3);
        x.halt();
        Checks.due("nothing is torn", x.octet(3, 0), 0);
        Checks.due("start", x.start(), 1);
        Checks.due("the batch is gone", x.get(), Checks.NO);
        Checks.put(x, "b", 1);
        Checks.due("power stays", x.commit(), 4);
    }

    private static void wrongInputs() {
        RadixPages x = committed();
        int[] wrong = {-2, 1001, Integer.MIN_VALUE, Integer.MAX_VALUE};
        for (int n : wrong) {
            Checks.due("power(" + n + ", 0)", x.power(n, 0), Checks.NONE);
        }
        int[] tears = {-1, 512, Integer.MIN_VALUE, Integer.MAX_VALUE};
        for (int tear : tears) {
            Checks.due("power(0, " + tear + ")", x.power(0, tear), Checks.NONE);
            Checks.due("power(-1, " + tear + ")", x.power(-1, tear), Checks.NONE);
        }
        Checks.put(x, "aa", 7);
        Checks.due("what is refused sets nothing", x.commit(), 3);
        Checks.due("power(1000, 511)", x.power(1000, 511), 1);
        x.halt();
        Checks.due("power when down", x.power(0, 0), Checks.DOWN);
        Checks.due("wrong power when down", x.power(-2, 0), Checks.DOWN);
    }
}
