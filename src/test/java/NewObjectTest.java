/** Promise 1: A new object. */
public final class NewObjectTest {
    private static final int NONE = Striping.NONE;

    public static void main(String[] args) {
        theConstant();
        noFields();
        noRecords();
        noFieldToLieIn();
        refusedCallsLeaveItNew();
        eachObjectOnItsOwn();
        Check.end();
    }

    private static void theConstant() {
        Check.sentence("NONE = -1");
        Check.due("NONE", Striping.NONE, -1);
    }

    private static void noFields() {
        Check.sentence("No fields");
        Counted x = new Counted();
        for (int f : Made.outside(0)) {
            Check.due("level(" + f + ", 0)", x.level(f, 0), NONE);
            Check.due("level(" + f + ", 2)", x.level(f, 2), NONE);
            Check.due("entries(" + f + ")", x.entries(f), NONE);
        }
        Check.due("ready()", x.ready(), NONE);
        Check.due("the first field's number", x.field(-1, 0, false), 0);
    }

    private static void noRecords() {
        Check.sentence("No records");
        Counted x = new Counted();
        Check.due("records()", x.records(), 0);
        for (int k : Made.outside(0)) {
            Check.due("assemble(" + k + ", -1, -1)", x.assemble(k, -1, -1), NONE);
            Check.due("event(" + k + ", 0)", x.event(k, 0), NONE);
            Check.due("entry(0, " + k + ", 0)", x.entry(0, k, 0), NONE);
            Check.due("open(" + k + ")", x.open(k), false);
            Check.due("leaf(" + k + ", 1)", x.leaf(k, 1), false);
        }
        Check.due("begin()", x.begin(), false);
        Check.due("close()", x.close(), false);
        Check.due("drop()", x.drop(), false);
    }

    private static void noFieldToLieIn() {
        Check.sentence("No fields: none to lie in");
        Counted x = new Counted();
        for (int parent : Made.outside(0)) {
            if (parent != -1) {
                Check.due("field(" + parent + ", 0, true)", x.field(parent, 0, true), NONE);
            }
        }
    }

    private static void refusedCallsLeaveItNew() {
        Check.sentence("A new object behind refused calls");
        Counted x = new Counted();
        x.ready();
        x.begin();
        x.open(0);
        x.leaf(0, 7);
        x.close();
        x.drop();
        x.assemble(0, 1, 0);
        x.field(0, 0, false);
        x.field(-1, 3, false);
        Check.due("the first field's number", x.field(-1, 2, false), 0);
        Check.due("its column", x.level(0, 2), 0);
        Check.due("ready()", x.ready(), 1);
        Check.due("records()", x.records(), 0);
        Check.due("entries(0)", x.entries(0), 0);
        Made.record(x, "0=4");
        Check.entries(x, 0, 0, 1, 4);
    }

    private static void eachObjectOnItsOwn() {
        Check.sentence("A new object has none of another's");
        Counted x = Made.ready("*");
        Made.record(x, "0=4 0=5");
        x.assemble(0, 1, 0);
        Counted y = new Counted();
        Check.due("records()", y.records(), 0);
        Check.due("level(0, 0)", y.level(0, 0), NONE);
        Check.due("event(0, 0)", y.event(0, 0), NONE);
        Check.due("the first field's number", y.field(-1, 1, false), 0);
        Check.due("its R", y.level(0, 0), 0);
        Check.due("the other's R", x.level(0, 0), 1);
        Check.due("ready()", y.ready(), 1);
        Check.due("entries(0)", y.entries(0), 0);
        Check.due("the other's entries(0)", x.entries(0), 2);
        Check.eventsNow(x, 0, 0);
    }
}
