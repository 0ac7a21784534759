import java.util.Random;

/**
 * LANGUAGE.md, rule 7: whatever the arguments and the state, no call throws and each one ends. The
 * document leaves answers behind the 512th call free; here it is only looked at that what is kept
 * stays within the document's limits and can be read again.
 */
public final class HostileTest {
    private static final int[] EDGES = {
        Integer.MIN_VALUE, Integer.MIN_VALUE + 1, -49, -2, -1, 0, 1, 2, 3, 15, 16, 17, 31, 32, 47, 48, 49,
        127, 128, 2047, 2048, 0x2AAAAAAB, 0x40000000, 0x55555556, Integer.MAX_VALUE - 1, Integer.MAX_VALUE,
    };

    public static void main(String[] args) {
        for (int seed = 0; seed < 200; seed++) {
            anyCalls(new Random(seed));
        }
        manyEntries();
        manyDeepGroups();
        Check.end();
    }

    private static void anyCalls(Random dice) {
        Striping x = new Striping();
        for (int n = 0; n < 3000; n++) {
            int a = edge(dice);
            int b = edge(dice);
            int c = edge(dice);
            switch (dice.nextInt(13)) {
                case 0 -> x.field(n < 60 ? dice.nextInt(n + 1) - 1 : a, b & 3, dice.nextInt(3) == 0);
                case 1 -> { if (n > 60) { x.ready(); } }
                case 2 -> x.begin();
                case 3 -> x.open(dice.nextBoolean() ? a : dice.nextInt(48));
                case 4 -> x.leaf(dice.nextBoolean() ? a : dice.nextInt(48), b);
                case 5 -> x.close();
                case 6 -> { if (dice.nextInt(9) == 0) { x.drop(); } }
                case 7 -> x.records();
                case 8 -> x.level(a, b);
                case 9 -> x.entries(a);
                case 10 -> x.entry(a, b, c);
                case 11 -> x.assemble(dice.nextBoolean() ? a : dice.nextInt(4), b, c);
                default -> x.event(a, b);
            }
        }
        Check.due("at most 128 records", x.records() <= 128, true);
    }

    private static int edge(Random dice) {
        return dice.nextInt(3) == 0 ? dice.nextInt() : EDGES[dice.nextInt(EDGES.length)];
    }

    /** The most entries that the limits leave room for: 47 columns in a group that comes 2048 times. */
    private static void manyEntries() {
        Striping x = new Striping();
        x.field(-1, 2, true);
        for (int f = 1; f < 48; f++) {
            x.field(0, 1, false);
        }
        x.ready();
        for (int n = 0; n < 127; n++) {
            x.begin();
            x.close();
        }
        x.begin();
        for (int n = 0; n < 2048; n++) {
            Check.due("open", x.open(0), true);
            x.close();
        }
        Check.due("open 2049", x.open(0), false);
        Check.due("close", x.close(), true);
        for (int c = 0; c < 47; c++) {
            Check.due("entries", x.entries(c), 127 + 2048);
            Check.due("last entry", x.entry(c, 127 + 2047, 1), 1);
        }
        Check.due("events", x.assemble(127, -1, -1), 4096);
        Check.due("last event", x.event(4095, 0), 1);
    }

    private static void manyDeepGroups() {
        Striping x = new Striping();
        for (int f = 0; f < 16; f++) {
            x.field(f - 1, 2, f < 15);
        }
        x.ready();
        x.begin();
        boolean more = true;
        for (int n = 0; n < 200 && more; n++) {
            for (int f = 0; f < 15; f++) {
                more &= x.open(f);
            }
            more &= x.leaf(15, n);
            for (int f = 0; f < 15 && more; f++) {
                x.close();
            }
        }
        for (int f = 0; f < 16; f++) {
            x.close();
        }
        Check.due("records", x.records(), 1);
        Check.due("entries", x.entries(0), 128);
        Check.due("events", x.assemble(0, 1, 0), 128 * 31);
    }
}
