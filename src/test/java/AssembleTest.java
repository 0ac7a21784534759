/** Promises 13 (assemble) and 14 (event). */
public final class AssembleTest {
    private static final int NONE = Striping.NONE;

    public static void main(String[] args) {
        setsOfColumns();
        bitsOfLowAndHigh();
        emptyGroups();
        wrongRecords();
        eventsStay();
        wrongEvents();
        Check.end();
    }

    /** 0 optional leaf, 1 repeated group (2 optional leaf, 3 optional group (4 repeated leaf)), 5 repeated leaf. */
    private static Striping sample() {
        Striping x = new Striping();
        x.field(-1, 1, false);
        x.field(-1, 2, true);
        x.field(1, 1, false);
        x.field(1, 1, true);
        x.field(3, 2, false);
        x.field(-1, 2, false);
        x.ready();
        x.begin();
        x.leaf(0, 10);
        x.open(1);
        x.leaf(2, 20);
        x.close();
        x.open(1);
        x.open(3);
        x.leaf(4, 40);
        x.leaf(4, 41);
        x.close();
        x.close();
        x.open(1);
        x.leaf(2, 21);
        x.open(3);
        x.close();
        x.close();
        x.leaf(5, 50);
        x.leaf(5, 51);
        x.close();
        x.begin();
        x.close();
        x.begin();
        x.leaf(5, 52);
        x.close();
        return x;
    }

    private static void setsOfColumns() {
        Striping x = sample();
        Check.events(x, 0, 15, 0, 0, 2, 4, 3, 2, 6, 8, 8, 7, 3, 2, 4, 6, 7, 3, 10, 10);
        Check.due("value of a leaf", x.event(0, 1), 10);
        Check.due("value of a group's begin", x.event(1, 1), 0);
        Check.due("value of a leaf in a group", x.event(2, 1), 20);
        Check.due("value of a group's end", x.event(3, 1), 0);
        Check.due("value of a repeated leaf", x.event(7, 1), 41);
        Check.due("value of the last", x.event(16, 1), 51);
        Check.events(x, 0, 1, 0, 0);
        Check.events(x, 0, 2, 0, 2, 4, 3, 2, 3, 2, 4, 3);
        Check.events(x, 0, 4, 0, 2, 3, 2, 6, 8, 8, 7, 3, 2, 6, 7, 3);
        Check.events(x, 0, 8, 0, 10, 10);
        Check.events(x, 0, 9, 0, 0, 10, 10);
        Check.events(x, 0, 12, 0, 2, 3, 2, 6, 8, 8, 7, 3, 2, 6, 7, 3, 10, 10);
        Check.events(x, 0, 0, 0);
        Check.events(x, 1, 15, 0);
        Check.events(x, 2, 15, 0, 10);
        Check.due("the third record's value", x.event(0, 1), 52);
        Check.events(x, 2, 7, 0);
    }

    private static void bitsOfLowAndHigh() {
        Striping x = new Striping();
        for (int f = 0; f < 48; f++) {
            x.field(-1, 0, false);
        }
        x.ready();
        x.begin();
        for (int f = 0; f < 48; f++) {
            x.leaf(f, 1000 + f);
        }
        x.close();
        for (int c = 0; c < 48; c++) {
            int low = c < 32 ? 1 << c : 0;
            int high = c < 32 ? 0 : 1 << (c - 32);
            Check.events(x, 0, low, high, 2 * c);
            Check.due("its value", x.event(0, 1), 1000 + c);
        }
        Check.due("all of them", x.assemble(0, -1, -1), 48);
        Check.due("all of low", x.assemble(0, -1, 0), 32);
        Check.due("all of high", x.assemble(0, 0, -1), 16);
        Check.due("high's bits that mean nothing", x.assemble(0, 0, 0xFFFF0000), 0);
        Check.events(x, 0, Integer.MIN_VALUE, 1, 62, 64);

        Striping y = sample();
        Check.due("bits of columns that are none", y.assemble(0, 0xFFFFFFF0, -1), 0);
        Check.events(y, 0, 0xFFFFFFF1, -1, 0);
    }

    private static void emptyGroups() {
        Striping x = new Striping();
        x.field(-1, 2, true);
        x.field(0, 1, false);
        x.field(0, 2, true);
        x.field(2, 2, false);
        x.ready();
        x.begin();
        x.open(0);
        x.close();
        x.open(0);
        x.open(2);
        x.close();
        x.open(2);
        x.close();
        x.close();
        x.close();
        Check.events(x, 0, 1, 0, 0, 1, 0, 1);
        Check.events(x, 0, 2, 0, 0, 1, 0, 4, 5, 4, 5, 1);
        Check.events(x, 0, 3, 0, 0, 1, 0, 4, 5, 4, 5, 1);
    }

    private static void wrongRecords() {
        Striping x = sample();
        for (int r : new int[] {-1, 3, 127, 128, Integer.MAX_VALUE, Integer.MIN_VALUE}) {
            Check.due("a record", x.assemble(0, 15, 0), 17);
            Check.due("no such record", x.assemble(r, 15, 0), NONE);
            Check.due("nor its events", x.event(0, 0), NONE);
            Check.due("nor their values", x.event(0, 1), NONE);
        }
        x.begin();
        Check.due("an open record", x.assemble(3, 15, 0), NONE);
        Check.due("a closed one meanwhile", x.assemble(2, 15, 0), 1);
        x.drop();
        Check.due("a dropped record", x.assemble(3, 15, 0), NONE);
    }

    private static void eventsStay() {
        Striping x = sample();
        Check.due("event before the first time", x.event(0, 0), NONE);
        x.assemble(2, 15, 0);
        x.begin();
        x.leaf(0, 99);
        Check.due("event while a record is open", x.event(0, 0), 10);
        x.close();
        x.begin();
        x.drop();
        Check.due("event behind other calls", x.event(0, 0), 10);
        Check.due("its value", x.event(0, 1), 52);
        Check.due("fewer events", x.assemble(1, 15, 0), 0);
        Check.due("the old ones are gone", x.event(0, 0), NONE);
        Check.events(x, 3, 15, 0, 0);
    }

    private static void wrongEvents() {
        Striping x = sample();
        x.assemble(0, 15, 0);
        for (int k : new int[] {-1, 17, 64, Integer.MAX_VALUE, Integer.MIN_VALUE, 0x40000000, 0x7FFFFFF0}) {
            Check.due("no such event", x.event(k, 0), NONE);
            Check.due("no such event's value", x.event(k, 1), NONE);
        }
        for (int what : new int[] {-1, 2, 3, Integer.MAX_VALUE, Integer.MIN_VALUE}) {
            Check.due("event of another what", x.event(0, what), NONE);
        }
    }
}
