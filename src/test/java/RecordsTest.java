/** Promise 9: records. */
public final class RecordsTest {
    public static void main(String[] args) {
        howManyThereAre();
        anOpenOneIsNotCounted();
        upTo128();
        refusedCallsCountNone();
        Check.end();
    }

    private static void howManyThereAre() {
        Check.sentence("How many records there are");
        Counted x = new Counted();
        Check.due("of a new object", x.records(), 0);
        x.field(-1, 2, false);
        Check.due("before READY", x.records(), 0);
        x.ready();
        Check.due("behind ready", x.records(), 0);
        Made.record(x, "0=1 0=2 0=3");
        Check.due("behind one", x.records(), 1);
        Made.record(x, "");
        Check.due("an empty one counts", x.records(), 2);
        Check.due("it is no count of entries", x.entries(0), 4);
    }

    private static void anOpenOneIsNotCounted() {
        Check.sentence("(an open one not counted)");
        Counted x = Made.ready("*( ? )");
        x.begin();
        Check.due("an empty one", x.records(), 0);
        Made.steps(x, "0(");
        Check.due("in its group", x.records(), 0);
        Made.steps(x, ")");
        Check.due("behind its group", x.records(), 0);
        x.close();
        Check.due("closed", x.records(), 1);
        x.begin();
        Check.due("the next", x.records(), 1);
        x.drop();
        Check.due("dropped", x.records(), 1);
    }

    private static void upTo128() {
        Check.sentence("At most 128 records");
        Counted x = Made.ready("?");
        for (int n = 1; n <= 128; n++) {
            Made.record(x, "");
            Check.due("records()", x.records(), n);
        }
        x.begin();
        x.close();
        Check.due("behind the 129th", x.records(), 128);
    }

    private static void refusedCallsCountNone() {
        Check.sentence("Refused calls make no record");
        Counted x = Made.ready("!");
        x.close();
        x.drop();
        x.begin();
        x.close();
        x.begin();
        Check.due("without its REQUIRED leaf", x.records(), 0);
        Made.steps(x, "0=1");
        x.close();
        x.close();
        Check.due("with it, once", x.records(), 1);
        x.assemble(1, 1, 0);
        x.ready();
        Check.due("still", x.records(), 1);
    }
}
