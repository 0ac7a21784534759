/** Promise 12: entry. How entries come is looked at in TakenApartTest. */
public final class EntryTest {
    private static final int NONE = Striping.NONE;

    public static void main(String[] args) {
        levelsAndValue();
        valueIs0IfItHasNone();
        noSuchColumn();
        noSuchEntry();
        noSuchEntryAsTheRowGrows();
        schemaIsntReady();
        openRecordHasNone();
        anotherWhat();
        entryChangesNothing();
        Check.end();
    }

    private static void levelsAndValue() {
        Check.sentence("An entry's REPETITION level (0), DEFINITION level (1), value (2)");
        Counted x = Made.ready("?( * )");
        Made.record(x, "0( 1=30 1=31 )");
        Check.due("entry(0, 1, 0)", x.entry(0, 1, 0), 1);
        Check.due("entry(0, 1, 1)", x.entry(0, 1, 1), 2);
        Check.due("entry(0, 1, 2)", x.entry(0, 1, 2), 31);
        Check.due("entry(0, 0, 0)", x.entry(0, 0, 0), 0);
        Check.due("entry(0, 0, 2)", x.entry(0, 0, 2), 30);
    }

    /** Values that were dropped or refused, or stood there before, don't shine through. */
    private static void valueIs0IfItHasNone() {
        Check.sentence("0 if it has none");
        Counted x = Made.ready("? *( * )");
        Made.record(x, "0=-1 1( 2=-1 )");
        Made.openRecord(x, "0=-2 1( 2=-2 )");
        x.drop();
        Made.record(x, "1( )");
        Check.entries(x, 0, 0, 1, -1, 0, 0, 0);
        Check.entries(x, 1, 0, 2, -1, 0, 1, 0);
        Made.record(x, "");
        Check.due("of a record without any", x.entry(1, 2, 2), 0);
        Check.due("its definition level", x.entry(1, 2, 1), 0);
    }

    private static void noSuchColumn() {
        Check.sentence("NONE if there is none such: column");
        Counted x = Made.ready("! ?( ! )");
        Made.record(x, "0=1 1( 2=2 )");
        for (int c : Made.outside(2)) {
            for (int what = 0; what < 3; what++) {
                Check.due("entry(" + c + ", 0, " + what + ")", x.entry(c, 0, what), NONE);
            }
        }
        Check.due("entry(1, 0, 2)", x.entry(1, 0, 2), 2);
    }

    private static void noSuchEntry() {
        Check.sentence("NONE if there is none such: entry");
        Counted x = Made.ready("! *");
        Check.due("without records", x.entry(0, 0, 0), NONE);
        Check.due("without records, the last column", x.entry(1, 0, 1), NONE);
        Made.record(x, "0=1 1=2 1=3 1=4");
        for (int what = 0; what < 3; what++) {
            for (int k : Made.outside(1)) {
                Check.due("entry(0, " + k + ", " + what + ")", x.entry(0, k, what), NONE);
            }
            for (int k : Made.outside(3)) {
                Check.due("entry(1, " + k + ", " + what + ")", x.entry(1, k, what), NONE);
            }
        }
        Check.due("the last that there is", x.entry(1, 2, 2), 4);
        Check.due("the first that there is", x.entry(1, 0, 2), 2);
    }

    private static void noSuchEntryAsTheRowGrows() {
        Check.sentence("NONE if there is none such: right behind the last of 1 to 100");
        Counted x = Made.ready("?");
        for (int n = 1; n <= 100; n++) {
            Made.record(x, "");
            Check.due("entry(0, " + (n - 1) + ", 1)", x.entry(0, n - 1, 1), 0);
            Check.due("entry(0, " + n + ", 1)", x.entry(0, n, 1), NONE);
        }
    }

    private static void schemaIsntReady() {
        Check.sentence("NONE if there is none such: before READY");
        Counted x = Made.fields("! *");
        for (int what = 0; what < 3; what++) {
            Check.due("entry(0, 0, " + what + ")", x.entry(0, 0, what), NONE);
            Check.due("entry(1, 0, " + what + ")", x.entry(1, 0, what), NONE);
        }
        Check.due("on a new object", new Counted().entry(0, 0, 0), NONE);
    }

    private static void openRecordHasNone() {
        Check.sentence("NONE if there is none such: an open or dropped record has none");
        Counted x = Made.ready("*");
        Made.openRecord(x, "0=1 0=2");
        Check.due("open", x.entry(0, 0, 2), NONE);
        x.drop();
        Check.due("dropped", x.entry(0, 0, 2), NONE);
        Made.record(x, "0=3");
        Made.openRecord(x, "0=4");
        Check.due("closed", x.entry(0, 0, 2), 3);
        Check.due("open behind it", x.entry(0, 1, 2), NONE);
    }

    private static void anotherWhat() {
        Check.sentence("NONE for another what");
        Counted x = Made.ready("! *");
        Made.record(x, "0=1 1=2 1=3");
        for (int what : Made.outside(3)) {
            Check.due("entry(0, 0, " + what + ")", x.entry(0, 0, what), NONE);
            Check.due("entry(1, 0, " + what + ")", x.entry(1, 0, what), NONE);
            Check.due("entry(1, 1, " + what + ")", x.entry(1, 1, what), NONE);
            Check.due("entry(2, 2, " + what + ")", x.entry(2, 2, what), NONE);
        }
    }

    private static void entryChangesNothing() {
        Check.sentence("An entry that is NONE changes no later answer");
        Counted x = Made.fields("*");
        x.entry(0, 0, 0);
        Check.due("ready()", x.ready(), 1);
        Made.record(x, "0=1");
        x.assemble(0, 1, 0);
        Made.openRecord(x, "0=2");
        x.entry(0, 1, 0);
        x.entry(1, 0, 0);
        x.entry(0, 0, 3);
        x.entry(Made.MIN, Made.MAX, Made.MIN);
        x.entry(Made.MAX, Made.MIN, Made.MAX);
        Check.eventsNow(x, 0);
        Made.steps(x, "0=3");
        Check.due("the record's end", x.close(), true);
        Check.entries(x, 0, 0, 1, 1, 0, 1, 2, 1, 1, 3);
    }
}
