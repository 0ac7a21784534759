/** Promises 4 (begin), 5 (open), 6 (leaf), 7 (close), 8 (drop) and 9 (records). */
public final class RecordTest {
    public static void main(String[] args) {
        beginAnswers();
        beginAtMost128();
        openAndLeafWithoutRecord();
        kindsOfFields();
        fieldsOfTheOpenGroup();
        requiredBefore();
        orderOfFields();
        tooMany();
        eachOccurrenceOnItsOwn();
        closeAnswers();
        closeTakesApartAtTheEnd();
        dropAnswers();
        droppedRecordsLeaveRoom();
        Check.end();
    }

    /** 0 required leaf, 1 optional group (2 required leaf, 3 repeated leaf), 4 repeated group (5 optional leaf). */
    private static Striping sample() {
        Striping x = new Striping();
        x.field(-1, 0, false);
        x.field(-1, 1, true);
        x.field(1, 0, false);
        x.field(1, 2, false);
        x.field(-1, 2, true);
        x.field(4, 1, false);
        x.ready();
        return x;
    }

    private static Striping oneOptionalLeaf() {
        Striping x = new Striping();
        x.field(-1, 1, false);
        x.ready();
        return x;
    }

    private static void beginAnswers() {
        Striping x = new Striping();
        x.field(-1, 1, false);
        Check.due("begin before ready", x.begin(), false);
        x.ready();
        Check.due("begin", x.begin(), true);
        Check.due("begin while one is open", x.begin(), false);
        Check.due("an open one is not counted", x.records(), 0);
        Check.due("close", x.close(), true);
        Check.due("a closed one is", x.records(), 1);
        Check.due("begin again", x.begin(), true);
        Check.due("still one", x.records(), 1);
    }

    private static void beginAtMost128() {
        Striping x = oneOptionalLeaf();
        for (int n = 0; n < 128; n++) {
            Check.due("begin of 128", x.begin(), true);
            if (n == 127) {
                Check.due("drop the 128th", x.drop(), true);
                Check.due("begin it again", x.begin(), true);
            }
            Check.due("close of 128", x.close(), true);
            Check.due("records", x.records(), n + 1);
        }
        Check.due("begin the 129th", x.begin(), false);
        Check.due("none is open", x.close(), false);
        Check.due("128 records", x.records(), 128);
        Check.due("128 entries", x.entries(0), 128);
        Check.due("the last is put together", x.assemble(127, 1, 0), 0);
        Check.due("there is no 129th", x.assemble(128, 1, 0), -1);
    }

    private static void openAndLeafWithoutRecord() {
        Striping x = sample();
        Check.due("open without a record", x.open(1), false);
        Check.due("leaf without a record", x.leaf(0, 1), false);
        Check.due("close without a record", x.close(), false);
        Check.due("drop without a record", x.drop(), false);
    }

    private static void kindsOfFields() {
        Striping x = sample();
        x.begin();
        Check.due("open of a leaf", x.open(0), false);
        Check.due("leaf", x.leaf(0, 7), true);
        Check.due("leaf of a group", x.leaf(1, 7), false);
        Check.due("open", x.open(1), true);
        Check.due("open of the group in itself", x.open(1), false);
        for (int f : new int[] {-1, 6, 47, 48, Integer.MAX_VALUE, Integer.MIN_VALUE}) {
            Check.due("open of no field", x.open(f), false);
            Check.due("leaf of no field", x.leaf(f, 1), false);
        }
    }

    private static void fieldsOfTheOpenGroup() {
        Striping x = sample();
        x.begin();
        x.leaf(0, 1);
        Check.due("a field of a group that isn't open", x.leaf(2, 1), false);
        Check.due("a field of another group that isn't open", x.leaf(5, 1), false);
        x.open(1);
        Check.due("the record's field in a group", x.open(4), false);
        Check.due("the group's own", x.leaf(2, 1), true);
        Check.due("another group's", x.leaf(5, 1), false);
        Check.due("end of the group", x.close(), true);
        Check.due("its field behind its end", x.leaf(3, 1), false);
        Check.due("the record's field", x.open(4), true);
        Check.due("and in it its own", x.leaf(5, 1), true);
    }

    private static void requiredBefore() {
        Striping x = sample();
        x.begin();
        Check.due("group behind a REQUIRED leaf", x.open(1), false);
        Check.due("a later one too", x.open(4), false);
        Check.due("the REQUIRED one", x.leaf(0, 1), true);
        Check.due("the OPTIONAL one may be left out", x.open(4), true);
        x.drop();
        x.begin();
        x.leaf(0, 1);
        x.open(1);
        Check.due("leaf behind a REQUIRED leaf", x.leaf(3, 1), false);
        Check.due("that one first", x.leaf(2, 1), true);
        Check.due("then the other", x.leaf(3, 1), true);

        Striping y = new Striping();
        y.field(-1, 0, true);
        y.field(0, 1, false);
        y.field(-1, 2, false);
        y.ready();
        y.begin();
        Check.due("leaf behind a REQUIRED group", y.leaf(2, 1), false);
        Check.due("the group", y.open(0), true);
        Check.due("its end", y.close(), true);
        Check.due("then the leaf", y.leaf(2, 1), true);
    }

    private static void orderOfFields() {
        Striping x = sample();
        x.begin();
        x.leaf(0, 1);
        x.open(4);
        x.close();
        Check.due("a group before one that has come", x.open(1), false);
        Check.due("the same REPEATED one again", x.open(4), true);

        Striping y = new Striping();
        y.field(-1, 2, false);
        y.field(-1, 1, false);
        y.field(-1, 2, false);
        y.ready();
        y.begin();
        Check.due("first", y.leaf(0, 1), true);
        Check.due("first again", y.leaf(0, 2), true);
        Check.due("third", y.leaf(2, 3), true);
        Check.due("first, too late", y.leaf(0, 4), false);
        Check.due("second, too late", y.leaf(1, 5), false);
        Check.due("third again", y.leaf(2, 6), true);
        y.close();
        Check.entries(y, 0, 0, 1, 1, 1, 1, 2);
        Check.entries(y, 1, 0, 0, 0);
        Check.entries(y, 2, 0, 1, 3, 1, 1, 6);
    }

    private static void tooMany() {
        Striping x = sample();
        x.begin();
        Check.due("REQUIRED leaf", x.leaf(0, 1), true);
        Check.due("REQUIRED leaf twice", x.leaf(0, 2), false);
        Check.due("OPTIONAL group", x.open(1), true);
        x.leaf(2, 3);
        Check.due("REQUIRED leaf twice in a group", x.leaf(2, 3), false);
        for (int n = 0; n < 100; n++) {
            Check.due("REPEATED leaf", x.leaf(3, n), true);
        }
        x.close();
        Check.due("OPTIONAL group twice", x.open(1), false);
        for (int n = 0; n < 50; n++) {
            Check.due("REPEATED group", x.open(4), true);
            Check.due("OPTIONAL leaf", x.leaf(5, n), true);
            Check.due("OPTIONAL leaf twice", x.leaf(5, n), false);
            Check.due("end", x.close(), true);
        }
        Check.due("end of the record", x.close(), true);
        Check.due("entries of field 3", x.entries(2), 100);
        Check.due("the last of them", x.entry(2, 99, 2), 99);
        Check.due("entries of field 5", x.entries(3), 50);
        Check.due("the last of them", x.entry(3, 49, 2), 49);
    }

    private static void eachOccurrenceOnItsOwn() {
        Striping x = new Striping();
        x.field(-1, 2, true);
        x.field(0, 0, false);
        x.field(0, 1, false);
        x.ready();
        x.begin();
        x.open(0);
        x.leaf(1, 1);
        x.leaf(2, 2);
        x.close();
        x.open(0);
        Check.due("the first one's REQUIRED leaf doesn't count for the second", x.leaf(2, 3), false);
        Check.due("nor at its end", x.close(), false);
        Check.due("the first one's leaves don't fill the second", x.leaf(1, 4), true);
        Check.due("nor the OPTIONAL", x.leaf(2, 5), true);
        Check.due("end", x.close(), true);
        Check.due("end of the record", x.close(), true);
        x.begin();
        x.open(0);
        Check.due("nor the last record's", x.leaf(2, 3), false);
    }

    private static void closeAnswers() {
        Striping x = sample();
        x.begin();
        Check.due("a record without its REQUIRED leaf", x.close(), false);
        Check.due("it is still open", x.leaf(0, 1), true);
        x.open(1);
        Check.due("a group without its REQUIRED leaf", x.close(), false);
        Check.due("it is still open too", x.leaf(2, 1), true);
        Check.due("end of the group", x.close(), true);
        Check.due("no record yet", x.records(), 0);
        Check.due("end of the record", x.close(), true);
        Check.due("one record", x.records(), 1);
        Check.due("no more to end", x.close(), false);

        Striping y = new Striping();
        y.field(-1, 1, false);
        y.field(-1, 0, true);
        y.field(1, 1, false);
        y.ready();
        y.begin();
        y.leaf(0, 1);
        Check.due("a record without its REQUIRED group", y.close(), false);
        y.open(1);
        Check.due("end of it", y.close(), true);
        Check.due("end of the record", y.close(), true);
    }

    private static void closeTakesApartAtTheEnd() {
        Striping x = sample();
        x.begin();
        x.leaf(0, 1);
        x.open(1);
        x.leaf(2, 2);
        x.close();
        Check.due("no entry of an open record", x.entries(0), 0);
        Check.due("nor of its ended group", x.entries(1), 0);
        Check.due("nor one to be read", x.entry(0, 0, 2), -1);
        Check.due("nor is it put together", x.assemble(0, 1, 0), -1);
        x.close();
        Check.due("then there is", x.entries(0), 1);
        Check.due("and there", x.entries(1), 1);
        Check.due("to be put together", x.assemble(0, 1, 0), 1);
    }

    private static void dropAnswers() {
        Striping x = sample();
        x.begin();
        x.leaf(0, 1);
        x.close();
        x.begin();
        x.leaf(0, 2);
        x.open(1);
        x.leaf(2, 3);
        Check.due("drop amid a group", x.drop(), true);
        Check.due("drop again", x.drop(), false);
        Check.due("no record is open", x.leaf(3, 3), false);
        Check.due("none to be closed", x.close(), false);
        Check.due("the closed one is left", x.records(), 1);
        Check.due("and its entry alone", x.entries(0), 1);
        Check.due("begin anew", x.begin(), true);
        Check.due("in the record, not in the group", x.leaf(3, 3), false);
        Check.due("with nothing", x.close(), false);
        Check.due("from the start", x.leaf(0, 4), true);
        x.close();
        Check.entries(x, 0, 0, 0, 1, 0, 0, 4);
        Check.entries(x, 1, 0, 0, 0, 0, 0, 0);
        Check.events(x, 1, -1, -1, 0);
    }

    private static void droppedRecordsLeaveRoom() {
        Striping x = oneOptionalLeaf();
        for (int n = 0; n < 150; n++) {
            Check.due("begin", x.begin(), true);
            x.leaf(0, n);
            Check.due("drop", x.drop(), true);
        }
        Check.due("no records", x.records(), 0);
        Check.due("no entries", x.entries(0), 0);
    }

    // That there are at most 2048 occurrences no 512 calls can show: HostileTest goes beyond them.
}
