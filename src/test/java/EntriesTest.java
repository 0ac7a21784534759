/** Promise 11: entries. */
public final class EntriesTest {
    private static final int NONE = Striping.NONE;

    public static void main(String[] args) {
        howManyAColumnHas();
        oneAtLeastForEachRecord();
        noSuchColumn();
        noSuchColumnOf48();
        schemaIsntReady();
        entriesChangeNothing();
        Check.end();
    }

    private static void howManyAColumnHas() {
        Check.sentence("How many entries a column has");
        Counted x = Made.ready("! *( * ) ?");
        Check.due("without records", x.entries(0), 0);
        Made.record(x, "0=1 1( 2=2 2=3 ) 1( ) 1( 2=4 )");
        Check.due("of a REQUIRED leaf", x.entries(0), 1);
        Check.due("of a REPEATED leaf in a REPEATED group", x.entries(1), 4);
        Check.due("of an OPTIONAL leaf without a value", x.entries(2), 1);
        Made.openRecord(x, "0=5 1( 2=6");
        Check.due("an open record has none yet", x.entries(1), 4);
        x.drop();
        Check.due("a dropped one never", x.entries(1), 4);
    }

    private static void oneAtLeastForEachRecord() {
        Check.sentence("where there is none, an entry comes");
        Counted x = Made.ready("?( *( * ) )");
        for (int n = 1; n <= 128; n++) {
            Made.record(x, "");
            Check.due("entries(0)", x.entries(0), n);
        }
    }

    private static void noSuchColumn() {
        Check.sentence("NONE if there is none such");
        Counted x = Made.ready("*( ? *( ! ) )");
        for (int c : Made.outside(2)) {
            Check.due("entries(" + c + ")", x.entries(c), NONE);
        }
        Made.record(x, "0( )");
        for (int c : Made.outside(2)) {
            Check.due("entries(" + c + ") behind a record", x.entries(c), NONE);
        }
        Check.due("fields are no columns: 2 is one, but there is no column 2", x.entries(2), NONE);
        Check.due("the last that there is", x.entries(1), 1);
        Check.due("the first that there is", x.entries(0), 1);
    }

    private static void noSuchColumnOf48() {
        Check.sentence("NONE if there is none such: of 48");
        Counted x = Made.ready("?".repeat(48));
        Made.record(x, "");
        for (int c = 0; c < 48; c++) {
            Check.due("entries(" + c + ")", x.entries(c), 1);
        }
        for (int c : Made.outside(48)) {
            Check.due("entries(" + c + ")", x.entries(c), NONE);
        }
    }

    private static void schemaIsntReady() {
        Check.sentence("NONE if the schema isn't READY");
        Counted x = Made.fields("! *(");
        for (int c : new int[] {Made.MIN, -1, 0, 1, 47, 48, Made.MAX}) {
            Check.due("entries(" + c + ")", x.entries(c), NONE);
        }
        Check.due("ready(), refused", x.ready(), NONE);
        Check.due("entries(0) behind it", x.entries(0), NONE);
        x.field(1, 0, false);
        Check.due("entries(0) before READY", x.entries(0), NONE);
        Check.due("entries(1) before READY", x.entries(1), NONE);
        Check.due("ready()", x.ready(), 2);
        Check.due("entries(0)", x.entries(0), 0);
        Check.due("entries(1)", x.entries(1), 0);
        Check.due("entries(2)", x.entries(2), NONE);
    }

    private static void entriesChangeNothing() {
        Check.sentence("Entries that are NONE change no later answer");
        Counted x = Made.fields("*");
        x.entries(0);
        x.entries(Made.MAX);
        Check.due("ready()", x.ready(), 1);
        Made.openRecord(x, "0=1");
        x.entries(1);
        x.entries(Made.MIN);
        Made.steps(x, "0=2");
        Check.due("the record's end", x.close(), true);
        Check.entries(x, 0, 0, 1, 1, 1, 1, 2);
    }
}
