/** Promise 3: ready. */
public final class ReadyTest {
    private static final int NONE = Striping.NONE;

    public static void main(String[] args) {
        howManyColumns();
        alreadyReady();
        noFields();
        aGroupHasNone();
        anyGroupOfManyHasNone();
        refusedReadyLeavesItUnready();
        refusedReadyKeepsRecords();
        Check.end();
    }

    private static void howManyColumns() {
        Check.sentence("The schema is READY: how many columns it has");
        Check.due("one leaf", Made.fields("!").ready(), 1);
        Check.due("one leaf in a group", Made.fields("?( *").ready(), 1);
        Check.due("groups aren't columns", Made.fields("?( * !( ? ) ) *( ! ) !").ready(), 4);
        Check.due("47 leaves", Made.fields("*( " + "?".repeat(47)).ready(), 47);
        Check.due("48 leaves", Made.fields("!".repeat(48)).ready(), 48);
        Counted x = Made.fields("? !");
        Check.due("entries before it", x.entries(0), NONE);
        Check.due("begin() before it", x.begin(), false);
        Check.due("ready()", x.ready(), 2);
        Check.due("entries behind it", x.entries(0), 0);
        Check.due("of the last column", x.entries(1), 0);
        Check.due("of no column", x.entries(2), NONE);
        Check.due("begin() behind it", x.begin(), true);
    }

    private static void alreadyReady() {
        Check.sentence("NONE if it is already");
        Counted x = Made.ready("* !");
        Check.due("ready() again", x.ready(), NONE);
        Check.due("it is READY still", x.entries(1), 0);
        Check.due("and again", x.ready(), NONE);
        Check.due("no field may come", x.field(-1, 0, false), NONE);
        Check.due("but a record", x.begin(), true);
    }

    private static void noFields() {
        Check.sentence("NONE if it has no fields");
        Counted x = new Counted();
        Check.due("ready()", x.ready(), NONE);
        Check.due("begin()", x.begin(), false);
        Check.due("a field may come", x.field(-1, 1, false), 0);
        Check.due("ready() with one", x.ready(), 1);
    }

    private static void aGroupHasNone() {
        Check.sentence("NONE if a group has none");
        Counted x = Made.fields("*(");
        Check.due("the only field", x.ready(), NONE);
        Check.due("a group in it", x.field(0, 0, true), 1);
        Check.due("that has none then", x.ready(), NONE);
        Check.due("a leaf in that", x.field(1, 0, false), 2);
        Check.due("then it is READY", x.ready(), 1);
    }

    private static void anyGroupOfManyHasNone() {
        Check.sentence("NONE if a group has none: the first, the last or one amid others");
        Check.due("the first", Made.fields("*() ! ?( ! )").ready(), NONE);
        Check.due("amid others", Made.fields("*( ! ) ?() *( ! )").ready(), NONE);
        Check.due("the last", Made.fields("! *( ! ) ?()").ready(), NONE);
        Check.due("the last in a group", Made.fields("! *( ! ?()").ready(), NONE);
        Check.due("the first in a group", Made.fields("! *( ?() ! )").ready(), NONE);
        Check.due("a REQUIRED one", Made.fields("!() !").ready(), NONE);
        Check.due("an OPTIONAL one", Made.fields("?() !").ready(), NONE);
        Check.due("a REPEATED one", Made.fields("*() !").ready(), NONE);
        Check.due("the 48th field", Made.fields("!".repeat(47) + "?(").ready(), NONE);
        Check.due("the 16th in one another", Made.fields("*(".repeat(16)).ready(), NONE);
        Check.due("none of them", Made.fields("*( ! ) ?( ! ) *( ?( ! ) )").ready(), 3);
    }

    private static void refusedReadyLeavesItUnready() {
        Check.sentence("A refused ready changes no later answer: not READY");
        Counted x = Made.fields("! ?(");
        Check.due("ready()", x.ready(), NONE);
        Check.due("entries(0)", x.entries(0), NONE);
        Check.due("begin()", x.begin(), false);
        Check.due("entry(0, 0, 0)", x.entry(0, 0, 0), NONE);
        Check.due("level(0, 2)", x.level(0, 2), 0);
        Check.due("level(1, 2)", x.level(1, 2), NONE);
        Check.due("a field in the group", x.field(1, 2, false), 2);
        Check.due("its column", x.level(2, 2), 1);
        Check.due("ready()", x.ready(), 2);
    }

    private static void refusedReadyKeepsRecords() {
        Check.sentence("A refused ready changes no later answer: records, entries, events");
        Counted x = Made.ready("! *( ? )");
        Made.record(x, "0=7 1( 2=8 ) 1( )");
        x.assemble(0, 3, 0);
        Check.due("ready() behind a record", x.ready(), NONE);
        Check.due("records()", x.records(), 1);
        Check.eventsNow(x, 0, 2, 4, 3, 2, 3);
        Made.openRecord(x, "0=9 1(");
        Check.due("ready() amid a record", x.ready(), NONE);
        Made.steps(x, "2=10 )");
        Check.due("the record's end", x.close(), true);
        Check.entries(x, 0, 0, 0, 7, 0, 0, 9);
        Check.entries(x, 1, 0, 2, 8, 1, 1, 0, 0, 2, 10);
    }
}
