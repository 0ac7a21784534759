/** Promises 11 (entries) and 12 (entry): how records are taken apart. */
public final class EntryTest {
    private static final int NONE = Striping.NONE;

    public static void main(String[] args) {
        kindsOfLeaves();
        repeatedInRepeated();
        requiredGroupsInOptional();
        deepest();
        valuesOf32Bits();
        wrongArguments();
        Check.end();
    }

    private static void kindsOfLeaves() {
        Striping x = new Striping();
        x.field(-1, 0, false);
        x.field(-1, 1, false);
        x.field(-1, 2, false);
        x.ready();
        x.begin();
        x.leaf(0, 5);
        x.close();
        x.begin();
        x.leaf(0, 6);
        x.leaf(1, 7);
        x.leaf(2, 8);
        x.leaf(2, 9);
        x.leaf(2, 10);
        x.close();
        Check.entries(x, 0, 0, 0, 5, 0, 0, 6);
        Check.entries(x, 1, 0, 0, 0, 0, 1, 7);
        Check.entries(x, 2, 0, 0, 0, 0, 1, 8, 1, 1, 9, 1, 1, 10);
    }

    /** Lists of lists of lists: the level is of the outermost one that goes on. */
    private static void repeatedInRepeated() {
        Striping x = new Striping();
        x.field(-1, 2, true);
        x.field(0, 2, true);
        x.field(1, 2, false);
        x.field(0, 1, false);
        x.ready();
        x.begin();
        x.open(0);
        x.open(1);
        x.leaf(2, 1);
        x.leaf(2, 2);
        x.close();
        x.open(1);
        x.close();
        x.open(1);
        x.leaf(2, 3);
        x.close();
        x.close();
        x.open(0);
        x.leaf(3, 4);
        x.close();
        x.open(0);
        x.open(1);
        x.leaf(2, 5);
        x.close();
        x.close();
        x.close();
        x.begin();
        x.close();
        Check.entries(x, 0, 0, 3, 1, 3, 3, 2, 2, 2, 0, 2, 3, 3, 1, 1, 0, 1, 3, 5, 0, 0, 0);
        Check.entries(x, 1, 0, 1, 0, 1, 2, 4, 1, 1, 0, 0, 0, 0);
        Check.events(x, 0, 3, 0, 0, 2, 4, 4, 3, 2, 3, 2, 4, 3, 1, 0, 6, 1, 0, 2, 4, 3, 1);
        Check.events(x, 0, 2, 0, 0, 1, 0, 6, 1, 0, 1);
        Check.events(x, 1, 3, 0);
    }

    private static void requiredGroupsInOptional() {
        Striping x = new Striping();
        x.field(-1, 1, true);
        x.field(0, 0, true);
        x.field(1, 0, true);
        x.field(2, 2, false);
        x.field(2, 0, false);
        x.ready();
        x.begin();
        x.close();
        x.begin();
        x.open(0);
        x.open(1);
        x.open(2);
        x.leaf(4, 11);
        x.close();
        x.close();
        x.close();
        x.close();
        Check.entries(x, 0, 0, 0, 0, 0, 1, 0);
        Check.entries(x, 1, 0, 0, 0, 0, 1, 11);
        Check.events(x, 1, 1, 0, 0, 2, 4, 5, 3, 1);
        Check.events(x, 1, 2, 0, 0, 2, 4, 8, 5, 3, 1);
    }

    /** 15 groups and a leaf, all REPEATED: each ends twice, from within outwards. */
    private static void deepest() {
        Striping x = new Striping();
        for (int f = 0; f < 16; f++) {
            x.field(f - 1, 2, f < 15);
        }
        x.ready();
        x.begin();
        openFrom(x, 0);
        x.leaf(15, 100);
        x.leaf(15, 101);
        for (int f = 14; f >= 0; f--) {
            for (int g = 14; g >= f; g--) {
                Check.due("close", x.close(), true);
            }
            openFrom(x, f);
            x.leaf(15, f);
        }
        for (int f = 15; f >= 0; f--) {
            Check.due("close at the end", x.close(), true);
        }
        Check.due("entries of the deepest", x.entries(0), 17);
        for (int k = 0; k < 17; k++) {
            Check.due("repetition " + k, x.entry(0, k, 0), k == 0 ? 0 : 17 - k);
            Check.due("definition " + k, x.entry(0, k, 1), 16);
            Check.due("value " + k, x.entry(0, k, 2), k < 2 ? 100 + k : 16 - k);
        }
        Check.due("events of the deepest", x.assemble(0, 1, 0), 17 + 2 * (15 + 15 * 16 / 2));
        Check.due("the first leaf", x.event(15, 1), 100);
    }

    private static void openFrom(Striping x, int first) {
        for (int f = first; f < 15; f++) {
            Check.due("open(" + f + ")", x.open(f), true);
        }
    }

    private static void valuesOf32Bits() {
        int[] values = {0, 1, -1, Integer.MAX_VALUE, Integer.MIN_VALUE, 0x7FFF8000};
        Striping x = new Striping();
        x.field(-1, 2, false);
        x.ready();
        x.begin();
        for (int v : values) {
            x.leaf(0, v);
        }
        x.close();
        Check.due("events", x.assemble(0, 1, 0), values.length);
        for (int k = 0; k < values.length; k++) {
            Check.due("entry's value", x.entry(0, k, 2), values[k]);
            Check.due("event's value", x.event(k, 1), values[k]);
        }
    }

    private static void wrongArguments() {
        Striping x = new Striping();
        x.field(-1, 0, true);
        x.field(0, 0, false);
        x.field(0, 1, false);
        Check.due("entries before ready", x.entries(0), NONE);
        Check.due("entry before ready", x.entry(0, 0, 0), NONE);
        x.ready();
        Check.due("no entries yet", x.entries(0), 0);
        Check.due("no entry yet", x.entry(0, 0, 0), NONE);
        x.begin();
        x.open(0);
        x.leaf(1, 9);
        x.close();
        x.close();
        for (int c : new int[] {-1, 2, 47, 48, Integer.MAX_VALUE, Integer.MIN_VALUE}) {
            Check.due("entries of no column", x.entries(c), NONE);
            Check.due("entry of no column", x.entry(c, 0, 1), NONE);
        }
        for (int k : new int[] {-1, 1, 8, Integer.MAX_VALUE, Integer.MIN_VALUE, 0x55555556, 0x2AAAAAAB}) {
            for (int what = 0; what < 3; what++) {
                Check.due("no such entry", x.entry(0, k, what), NONE);
            }
        }
        for (int what : new int[] {-1, 3, Integer.MAX_VALUE, Integer.MIN_VALUE}) {
            Check.due("entry of another what", x.entry(0, 0, what), NONE);
        }
        Check.entries(x, 0, 0, 0, 9);
        Check.entries(x, 1, 0, 0, 0);
    }
}
