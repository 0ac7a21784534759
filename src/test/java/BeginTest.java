/** Promise 4: begin. */
public final class BeginTest {
    public static void main(String[] args) {
        aRecordBegins();
        schemaIsntReady();
        oneIsOpen();
        thereAre128();
        droppedOnesAreNone();
        refusedBeginKeepsTheOpenRecord();
        refusedBeginBehind128();
        Check.end();
    }

    private static void aRecordBegins() {
        Check.sentence("A record begins");
        Counted x = Made.ready("?");
        Check.due("leaf(0, 1) before it", x.leaf(0, 1), false);
        Check.due("begin()", x.begin(), true);
        Check.due("leaf(0, 1) in it", x.leaf(0, 1), true);
        Check.due("close()", x.close(), true);
        Check.due("begin() again", x.begin(), true);
        Check.due("leaf(0, 2) in the new one", x.leaf(0, 2), true);
        Check.due("close() again", x.close(), true);
        Check.entries(x, 0, 0, 1, 1, 0, 1, 2);
    }

    private static void schemaIsntReady() {
        Check.sentence("false if the schema isn't READY");
        Check.due("without fields", new Counted().begin(), false);
        Counted x = Made.fields("? *(");
        Check.due("with fields", x.begin(), false);
        x.ready();
        Check.due("behind a ready that was refused", x.begin(), false);
        Check.due("no record is open", x.drop(), false);
        Check.due("a field may come", x.field(1, 1, false), 2);
        Check.due("ready()", x.ready(), 2);
        Check.due("no record is open behind it", x.close(), false);
        Check.due("begin()", x.begin(), true);
    }

    private static void oneIsOpen() {
        Check.sentence("false if one is open");
        Counted x = Made.ready("*( ?( * ) )");
        Check.due("begin()", x.begin(), true);
        Check.due("begin() in an empty record", x.begin(), false);
        Made.steps(x, "0(");
        Check.due("begin() in a group", x.begin(), false);
        Made.steps(x, "1( 2=5");
        Check.due("begin() in a group in it", x.begin(), false);
        Made.steps(x, ") )");
        Check.due("begin() behind the groups", x.begin(), false);
        Check.due("close()", x.close(), true);
        Check.due("begin() behind the record", x.begin(), true);
        Check.due("drop()", x.drop(), true);
        Check.due("begin() behind a dropped one", x.begin(), true);
    }

    private static void thereAre128() {
        Check.sentence("false if there are 128");
        Counted x = Made.ready("?");
        Made.records(x, 127);
        Check.due("records()", x.records(), 127);
        Check.due("begin() of the 128th", x.begin(), true);
        Check.due("close() of the 128th", x.close(), true);
        Check.due("begin() of the 129th", x.begin(), false);
        Check.due("begin() again", x.begin(), false);
        Check.due("records()", x.records(), 128);
    }

    private static void droppedOnesAreNone() {
        Check.sentence("false if there are 128: dropped ones are none");
        Counted x = Made.ready("?");
        for (int n = 0; n < 129; n++) {
            Check.due("begin()", x.begin(), true);
            Check.due("drop()", x.drop(), true);
        }
        Check.due("begin() behind 129 dropped ones", x.begin(), true);

        Counted y = Made.ready("?");
        Made.records(y, 127);
        Check.due("begin() of the 128th", y.begin(), true);
        Check.due("drop() of it", y.drop(), true);
        Check.due("begin() of the 128th again", y.begin(), true);
        Check.due("close() of it", y.close(), true);
        Check.due("begin() of the 129th", y.begin(), false);
    }

    private static void refusedBeginKeepsTheOpenRecord() {
        Check.sentence("A refused begin changes no later answer: the open record");
        Counted x = Made.ready("! *( ? * )");
        Made.openRecord(x, "0=3");
        x.begin();
        Check.due("the REQUIRED leaf is there already", x.leaf(0, 4), false);
        Made.steps(x, "1( 2=5");
        x.begin();
        Check.due("the OPTIONAL leaf too", x.leaf(2, 6), false);
        Made.steps(x, "3=7");
        x.begin();
        Made.steps(x, "3=8 )");
        Check.due("close()", x.close(), true);
        Check.due("records()", x.records(), 1);
        Check.entries(x, 0, 0, 0, 3);
        Check.entries(x, 1, 0, 2, 5);
        Check.entries(x, 2, 0, 2, 7, 2, 2, 8);
    }

    private static void refusedBeginBehind128() {
        Check.sentence("A refused begin changes no later answer: 128 records");
        Counted x = Made.ready("*");
        Made.records(x, 127);
        Made.record(x, "0=1 0=2");
        x.assemble(127, 1, 0);
        Check.due("begin()", x.begin(), false);
        Check.due("leaf(0, 3)", x.leaf(0, 3), false);
        Check.due("close()", x.close(), false);
        Check.due("drop()", x.drop(), false);
        Check.due("records()", x.records(), 128);
        Check.due("entries(0)", x.entries(0), 129);
        Check.due("the last entry's value", x.entry(0, 128, 2), 2);
        Check.due("the events' last value", x.event(1, 1), 2);
        Check.due("the last record", x.assemble(127, 1, 0), 2);
        Check.due("no record behind it", x.assemble(128, 1, 0), -1);
    }
}
