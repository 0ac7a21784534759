/** Promise 13: assemble. The events' order is looked at in PutTogetherTest. */
public final class AssembleTest {
    private static final int NONE = Striping.NONE;

    public static void main(String[] args) {
        howManyEvents();
        bitsOfLow();
        bitsOfHigh();
        allBits();
        smallestAndLargestSets();
        highsOtherBitsMeanNothing();
        bitsOfNoColumnMeanNothing();
        noSuchRecord();
        noSuchRecordOf128();
        noRecordsAtAll();
        openAndDroppedRecords();
        andNone();
        refusedAssembleChangesNothingElse();
        assembleKeepsRecordsAndEntries();
        Check.end();
    }

    private static Counted leaves(int count) {
        Counted x = Made.ready("!".repeat(count));
        StringBuilder text = new StringBuilder();
        for (int f = 0; f < count; f++) {
            text.append(f).append('=').append(1000 + f).append(' ');
        }
        Made.record(x, text.toString());
        return x;
    }

    private static void howManyEvents() {
        Check.sentence("A record is PUT TOGETHER: how many events");
        Counted x = Made.ready("? *( * )");
        Made.record(x, "0=1 1( 2=2 2=3 )");
        Made.record(x, "");
        Made.record(x, "1( ) 1( )");
        Check.due("assemble(0, 3, 0)", x.assemble(0, 3, 0), 5);
        Check.due("assemble(1, 3, 0)", x.assemble(1, 3, 0), 0);
        Check.due("assemble(2, 3, 0)", x.assemble(2, 3, 0), 4);
        Check.due("assemble(0, 1, 0)", x.assemble(0, 1, 0), 1);
        Check.due("assemble(0, 2, 0)", x.assemble(0, 2, 0), 4);
        Check.due("assemble(0, 0, 0)", x.assemble(0, 0, 0), 0);
        Check.due("none of no columns", x.event(0, 0), NONE);
    }

    private static void bitsOfLow() {
        Check.sentence("the columns whose bits are set: 0 .. 31 in low");
        Counted x = leaves(48);
        for (int c = 0; c < 32; c++) {
            Check.events(x, 0, 1 << c, 0, 2 * c);
            Check.due("its value", x.event(0, 1), 1000 + c);
        }
    }

    private static void bitsOfHigh() {
        Check.sentence("the columns whose bits are set: 32 .. 47 in high");
        Counted x = leaves(48);
        for (int c = 32; c < 48; c++) {
            Check.events(x, 0, 0, 1 << (c - 32), 2 * c);
            Check.due("its value", x.event(0, 1), 1000 + c);
        }
        Check.events(x, 0, 1 << 31, 1, 62, 64);
    }

    private static void allBits() {
        Check.sentence("the columns whose bits are set: all");
        Counted x = leaves(48);
        Check.due("all", x.assemble(0, -1, -1), 48);
        for (int k = 0; k < 48; k++) {
            Check.due("event(" + k + ", 0)", x.event(k, 0), 2 * k);
            Check.due("event(" + k + ", 1)", x.event(k, 1), 1000 + k);
        }
        Check.due("all of low", x.assemble(0, -1, 0), 32);
        Check.due("the last of low", x.event(31, 0), 62);
        Check.due("all of high", x.assemble(0, 0, -1), 16);
        Check.due("the first of high", x.event(0, 0), 64);
        Check.due("the last of high", x.event(15, 0), 94);
        Check.due("all that mean something", x.assemble(0, -1, 0xFFFF), 48);
        Check.due("all but the first and the last", x.assemble(0, -2, 0x7FFF), 46);
        Check.due("then the first", x.event(0, 0), 2);
        Check.due("then the last", x.event(45, 0), 92);
    }

    private static void smallestAndLargestSets() {
        Check.sentence("the columns whose bits are set: the smallest and the largest int");
        Counted x = leaves(48);
        Check.events(x, 0, Made.MIN, 0, 62);
        Check.due("low MAX", x.assemble(0, Made.MAX, 0), 31);
        Check.due("its last", x.event(30, 0), 60);
        Check.due("high MIN", x.assemble(0, 0, Made.MIN), 0);
        Check.due("high MAX", x.assemble(0, 0, Made.MAX), 16);
        Check.due("its first", x.event(0, 0), 64);
        Check.events(x, 0, Made.MIN, Made.MIN, 62);
        Check.due("both MAX", x.assemble(0, Made.MAX, Made.MAX), 47);
        Check.due("column 31 is left out", x.event(31, 0), 64);
    }

    private static void highsOtherBitsMeanNothing() {
        Check.sentence("others mean nothing: 16 .. 31 of high");
        Counted x = leaves(48);
        for (int bit = 16; bit < 32; bit++) {
            Check.due("high's bit " + bit, x.assemble(0, 0, 1 << bit), 0);
            Check.events(x, 0, 1, 1 << bit | 1, 0, 64);
        }
        Check.due("all of them", x.assemble(0, 0, 0xFFFF0000), 0);
    }

    private static void bitsOfNoColumnMeanNothing() {
        Check.sentence("others mean nothing: those of no column");
        Counted x = Made.ready("? *( * ) ?");
        Made.record(x, "0=1 1( 2=2 ) 3=3");
        Check.due("none of the three", x.assemble(0, 0xFFFFFFF8, -1), 0);
        Check.due("high alone", x.assemble(0, 0, -1), 0);
        for (int bit = 3; bit < 32; bit++) {
            Check.due("low's bit " + bit, x.assemble(0, 1 << bit, 0), 0);
        }
        Check.events(x, 0, 0xFFFFFFFD, -1, 0, 6);
        Check.events(x, 0, -1, -1, 0, 2, 4, 3, 6);
        Counted y = leaves(32);
        Check.due("32 columns, high alone", y.assemble(0, 0, -1), 0);
        Check.due("32 columns, low alone", y.assemble(0, -1, 0), 32);
        Counted z = leaves(33);
        Check.events(z, 0, 0, -1, 64);
        Counted w = leaves(31);
        Check.due("31 columns, the 32nd's bit", w.assemble(0, Made.MIN, 0), 0);
    }

    private static void noSuchRecord() {
        Check.sentence("NONE if there is none such");
        Counted x = Made.ready("*");
        Made.record(x, "0=1");
        Made.record(x, "0=2 0=3");
        Made.record(x, "");
        for (int r : Made.outside(3)) {
            Check.due("assemble(" + r + ", 1, 0)", x.assemble(r, 1, 0), NONE);
            Check.due("assemble(" + r + ", 0, 0)", x.assemble(r, 0, 0), NONE);
        }
        Check.due("the first that there is", x.assemble(0, 1, 0), 1);
        Check.due("its value", x.event(0, 1), 1);
        Check.due("the last that there is", x.assemble(2, 1, 0), 0);
        Check.due("the one before it", x.assemble(1, 1, 0), 2);
        Check.due("its value", x.event(1, 1), 3);
    }

    private static void noSuchRecordOf128() {
        Check.sentence("NONE if there is none such: of 128");
        Counted x = Made.ready("*");
        Made.records(x, 127);
        Made.record(x, "0=5");
        for (int r : Made.outside(128)) {
            Check.due("assemble(" + r + ", 1, 0)", x.assemble(r, 1, 0), NONE);
        }
        Check.due("assemble(126, 1, 0)", x.assemble(126, 1, 0), 0);
        Check.due("assemble(127, 1, 0)", x.assemble(127, 1, 0), 1);
        Check.due("its value", x.event(0, 1), 5);
    }

    private static void noRecordsAtAll() {
        Check.sentence("NONE if there is none such: no records");
        Check.due("a new object", new Counted().assemble(0, -1, -1), NONE);
        Counted x = Made.fields("*");
        Check.due("before READY", x.assemble(0, 1, 0), NONE);
        x.ready();
        Check.due("behind ready", x.assemble(0, 1, 0), NONE);
        Check.due("no columns chosen", x.assemble(0, 0, 0), NONE);
        Check.due("no events", x.event(0, 0), NONE);
    }

    private static void openAndDroppedRecords() {
        Check.sentence("NONE if there is none such: an open or a dropped record");
        Counted x = Made.ready("*");
        Made.openRecord(x, "0=1");
        Check.due("the first, open", x.assemble(0, 1, 0), NONE);
        x.drop();
        Check.due("the first, dropped", x.assemble(0, 1, 0), NONE);
        Made.record(x, "0=2");
        Made.openRecord(x, "0=3 0=4");
        Check.due("the second, open", x.assemble(1, 1, 0), NONE);
        Check.due("the first meanwhile", x.assemble(0, 1, 0), 1);
        x.close();
        Check.due("the second, closed", x.assemble(1, 1, 0), 2);
    }

    private static void andNone() {
        Check.sentence("NONE (and none)");
        for (int r : new int[] {Made.MIN, -1, 1, 128, Made.MAX}) {
            Counted x = Made.ready("*( ? )");
            Made.record(x, "0( 1=7 )");
            Check.due("assemble(0, 1, 0)", x.assemble(0, 1, 0), 3);
            Check.due("its value", x.event(1, 1), 7);
            Check.due("assemble(" + r + ", 1, 0)", x.assemble(r, 1, 0), NONE);
            for (int k = -1; k < 4; k++) {
                Check.due("event(" + k + ", 0)", x.event(k, 0), NONE);
                Check.due("event(" + k + ", 1)", x.event(k, 1), NONE);
            }
            Check.events(x, 0, 1, 0, 0, 2, 1);
        }
    }

    private static void refusedAssembleChangesNothingElse() {
        Check.sentence("A refused assemble changes no later answer but the events'");
        Counted x = Made.fields("! *( * )");
        x.assemble(0, -1, -1);
        Check.due("ready()", x.ready(), 2);
        Made.record(x, "0=1 1( 2=2 2=3 )");
        Made.openRecord(x, "0=4 1( 2=5");
        x.assemble(1, -1, -1);
        x.assemble(-1, -1, -1);
        x.assemble(Made.MIN, Made.MIN, Made.MIN);
        x.assemble(Made.MAX, Made.MAX, Made.MAX);
        Made.steps(x, "2=6 ) 1( )");
        Check.due("the record's end", x.close(), true);
        Check.due("records()", x.records(), 2);
        Check.entries(x, 0, 0, 0, 1, 0, 0, 4);
        Check.entries(x, 1, 0, 2, 2, 2, 2, 3, 0, 2, 5, 2, 2, 6, 1, 1, 0);
        Check.events(x, 1, 3, 0, 0, 2, 4, 4, 3, 2, 3);
    }

    private static void assembleKeepsRecordsAndEntries() {
        Check.sentence("from the entries: it may be done again, for any record in any order");
        Counted x = Made.ready("*( * )");
        Made.record(x, "0( 1=1 1=2 ) 0( )");
        Made.record(x, "");
        Made.record(x, "0( 1=3 )");
        for (int n = 0; n < 3; n++) {
            Check.events(x, 2, 1, 0, 0, 2, 1);
            Check.due("its value", x.event(1, 1), 3);
            Check.events(x, 0, 1, 0, 0, 2, 2, 1, 0, 1);
            Check.due("its value", x.event(2, 1), 2);
            Check.events(x, 1, 1, 0);
        }
        Made.record(x, "0( 1=4 )");
        Check.events(x, 3, 1, 0, 0, 2, 1);
        Check.due("its value", x.event(1, 1), 4);
        Check.entries(x, 0, 0, 2, 1, 2, 2, 2, 1, 1, 0, 0, 0, 0, 0, 2, 3, 0, 2, 4);
    }
}
