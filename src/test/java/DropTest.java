/** Promise 8: drop. That dropped occurrences leave room for 2048 is looked at in LimitsTest. */
public final class DropTest {
    public static void main(String[] args) {
        theOpenRecordIsNone();
        norItsOccurrences();
        atAnyDepth();
        noneIsOpen();
        closedRecordsStay();
        refusedDropChangesNothing();
        Check.end();
    }

    private static void theOpenRecordIsNone() {
        Check.sentence("The open record is none any more");
        Counted x = Made.ready("*( ? )");
        Made.openRecord(x, "0( 1=1");
        Check.due("drop()", x.drop(), true);
        Check.due("close()", x.close(), false);
        Check.due("leaf(1, 1)", x.leaf(1, 1), false);
        Check.due("open(0)", x.open(0), false);
        Check.due("records()", x.records(), 0);
        Check.due("entries(0)", x.entries(0), 0);
        Check.due("assemble(0, 1, 0)", x.assemble(0, 1, 0), -1);
        Check.due("begin()", x.begin(), true);
        Check.due("drop() of an empty one", x.drop(), true);
        Check.due("records()", x.records(), 0);
    }

    private static void norItsOccurrences() {
        Check.sentence("nor its occurrences");
        Counted x = Made.ready("! ? *( ! )");
        Made.openRecord(x, "0=1 1=2 2( 3=3 ) 2( 3=4");
        Check.due("drop()", x.drop(), true);
        x.begin();
        Check.due("the REQUIRED leaf has none", x.close(), false);
        Check.due("so that others may not come", x.leaf(1, 5), false);
        Check.due("but it may", x.leaf(0, 6), true);
        Check.due("and the OPTIONAL one", x.leaf(1, 7), true);
        Check.due("the group isn't open", x.leaf(3, 8), false);
        Check.due("the record's end", x.close(), true);
        Check.entries(x, 0, 0, 0, 6);
        Check.entries(x, 1, 0, 1, 7);
        Check.entries(x, 2, 0, 0, 0);
        Check.events(x, 0, -1, -1, 0, 2);
    }

    private static void atAnyDepth() {
        Check.sentence("The open record is none any more: at any depth");
        for (int depth = 0; depth <= 15; depth++) {
            Counted x = Made.ready("?(".repeat(15) + "?");
            x.begin();
            for (int f = 0; f < depth; f++) {
                Check.due("open(" + f + ")", x.open(f), true);
            }
            Check.due("drop() at " + depth, x.drop(), true);
            Check.due("drop() again", x.drop(), false);
            Made.record(x, "0( 1( ) )");
            Check.entries(x, 0, 0, 2, 0);
        }
    }

    private static void noneIsOpen() {
        Check.sentence("false if none is open");
        Counted x = Made.fields("?");
        Check.due("before READY", x.drop(), false);
        x.ready();
        Check.due("before the first record", x.drop(), false);
        Made.record(x, "0=1");
        Check.due("behind a record", x.drop(), false);
        x.begin();
        Check.due("in a record", x.drop(), true);
        Check.due("behind a dropped one", x.drop(), false);
        Check.due("no fields", new Counted().drop(), false);
    }

    private static void closedRecordsStay() {
        Check.sentence("The open record alone: closed ones stay");
        Counted x = Made.ready("*");
        Made.record(x, "0=1 0=2");
        Made.record(x, "0=3");
        x.assemble(0, 1, 0);
        Made.openRecord(x, "0=4 0=5 0=6");
        Check.due("drop()", x.drop(), true);
        Check.due("records()", x.records(), 2);
        Check.eventsNow(x, 0, 0);
        Check.entries(x, 0, 0, 1, 1, 1, 1, 2, 0, 1, 3);
        Made.record(x, "0=7");
        Check.entries(x, 0, 0, 1, 1, 1, 1, 2, 0, 1, 3, 0, 1, 7);
        Check.events(x, 2, 1, 0, 0);
        Check.due("its value", x.event(0, 1), 7);
    }

    private static void refusedDropChangesNothing() {
        Check.sentence("A refused drop changes no later answer");
        Counted x = Made.ready("*");
        x.drop();
        Made.record(x, "0=1");
        x.assemble(0, 1, 0);
        x.drop();
        x.drop();
        Check.due("records()", x.records(), 1);
        Check.eventsNow(x, 0);
        Check.entries(x, 0, 0, 1, 1);
        Made.record(x, "0=2 0=3");
        x.drop();
        Check.due("records()", x.records(), 2);
        Check.entries(x, 0, 0, 1, 1, 0, 1, 2, 1, 1, 3);
    }
}
