/** Promise 7: close. */
public final class CloseTest {
    public static void main(String[] args) {
        theOpenOccurrenceEnds();
        theRecordEnds();
        thenItIsTakenApart();
        noRecordIsOpen();
        requiredFieldOfTheRecordHasNone();
        requiredFieldOfAGroupHasNone();
        othersMayHaveNone();
        refusedCloseKeepsItOpen();
        refusedCloseBehindRecords();
        Check.end();
    }

    private static void theOpenOccurrenceEnds() {
        Check.sentence("The open occurrence ends");
        Counted x = Made.ready("*( *( ? ) ? ) ?");
        Made.openRecord(x, "0( 1(");
        Check.due("the inner one", x.close(), true);
        Check.due("its leaf may not come", x.leaf(2, 1), false);
        Check.due("the outer one's may", x.leaf(3, 2), true);
        Check.due("the outer one", x.close(), true);
        Check.due("its leaf may not come", x.leaf(3, 3), false);
        Check.due("the record's may", x.leaf(4, 4), true);
        Check.due("no record yet", x.records(), 0);
    }

    private static void theRecordEnds() {
        Check.sentence("The record ends");
        Counted x = Made.ready("?");
        Made.openRecord(x, "0=1");
        Check.due("close()", x.close(), true);
        Check.due("records()", x.records(), 1);
        Check.due("none is open", x.drop(), false);
        Check.due("another may begin", x.begin(), true);
        Check.due("an empty one", x.close(), true);
        Check.due("records()", x.records(), 2);
    }

    private static void thenItIsTakenApart() {
        Check.sentence("then it is taken apart");
        Counted x = Made.ready("! *( ! )");
        Made.openRecord(x, "0=1 1( 2=2 )");
        Check.due("no entry of an open record", x.entries(0), 0);
        Check.due("nor of its ended group", x.entries(1), 0);
        Check.due("nor one to be read", x.entry(0, 0, 2), -1);
        Check.due("nor is it put together", x.assemble(0, 3, 0), -1);
        Check.due("close()", x.close(), true);
        Check.entries(x, 0, 0, 0, 1);
        Check.entries(x, 1, 0, 1, 2);
        Check.events(x, 0, 3, 0, 0, 2, 4, 3);
        Made.openRecord(x, "0=3");
        Check.entries(x, 0, 0, 0, 1);
    }

    private static void noRecordIsOpen() {
        Check.sentence("False if no record is open");
        Counted x = Made.fields("?");
        Check.due("before READY", x.close(), false);
        x.ready();
        Check.due("before the first record", x.close(), false);
        Made.record(x, "0=1");
        Check.due("behind a record", x.close(), false);
        Check.due("and again", x.close(), false);
        Made.openRecord(x, "0=2");
        x.drop();
        Check.due("behind a dropped one", x.close(), false);
        Check.due("records()", x.records(), 1);
        Check.entries(x, 0, 0, 1, 1);
    }

    private static void requiredFieldOfTheRecordHasNone() {
        Check.sentence("False if a REQUIRED field has none: of the record");
        Counted x = Made.ready("! ? !( ? ) * !");
        x.begin();
        Check.due("all of them", x.close(), false);
        Made.steps(x, "0=1");
        Check.due("the group and the last", x.close(), false);
        Made.steps(x, "1=2 2( )");
        Check.due("the last", x.close(), false);
        Made.steps(x, "4=3");
        Check.due("the last, behind one more", x.close(), false);
        Made.steps(x, "5=4");
        Check.due("none of them", x.close(), true);

        Counted y = Made.ready("* !( ? )");
        Made.openRecord(y, "0=1");
        Check.due("the group, the last field", y.close(), false);
        Made.steps(y, "1( )");
        Check.due("none", y.close(), true);
    }

    private static void requiredFieldOfAGroupHasNone() {
        Check.sentence("False if a REQUIRED field has none: of the open group");
        Counted x = Made.ready("*( ! ?( ! !( ! ) ) !( ? ) )");
        Made.openRecord(x, "0(");
        Check.due("the first and the last", x.close(), false);
        Made.steps(x, "1=1 2(");
        Check.due("the inner group's leaf", x.close(), false);
        Made.steps(x, "3=2");
        Check.due("the inner group's group", x.close(), false);
        Made.steps(x, "4(");
        Check.due("the innermost leaf", x.close(), false);
        Made.steps(x, "5=3");
        Check.due("the innermost end", x.close(), true);
        Check.due("the inner end", x.close(), true);
        Check.due("the last is left", x.close(), false);
        Made.steps(x, "6( )");
        Check.due("the group's end", x.close(), true);
        Made.steps(x, "0(");
        Check.due("the next occurrence has none of its own", x.close(), false);
    }

    private static void othersMayHaveNone() {
        Check.sentence("False if a REQUIRED field has none: others may, and one in a group without occurrences");
        Counted x = Made.ready("? * ?( ! ) *( ! )");
        x.begin();
        Check.due("an empty record", x.close(), true);
        for (int c = 0; c < 4; c++) {
            Check.entries(x, c, 0, 0, 0);
        }
        Counted y = Made.ready("?( ? * *( ! ) )");
        Made.openRecord(y, "0(");
        Check.due("an empty group", y.close(), true);
        Check.due("the record", y.close(), true);
        for (int c = 0; c < 3; c++) {
            Check.entries(y, c, 0, 1, 0);
        }
    }

    private static void refusedCloseKeepsItOpen() {
        Check.sentence("A refused close changes no later answer: what is open");
        Counted x = Made.ready("! *( ? ! ) !");
        x.begin();
        x.close();
        Check.due("begin() while it is open", x.begin(), false);
        Made.steps(x, "0=1 1( 2=2");
        x.close();
        x.close();
        Check.due("the group's leaf is there already", x.leaf(2, 3), false);
        Check.due("the record's isn't the group's", x.leaf(4, 3), false);
        Made.steps(x, "3=4 )");
        x.close();
        Check.due("records()", x.records(), 0);
        Check.due("entries(0)", x.entries(0), 0);
        Made.steps(x, "1( 3=5 ) 4=6");
        Check.due("the record's end", x.close(), true);
        Check.due("records()", x.records(), 1);
        Check.entries(x, 0, 0, 0, 1);
        Check.entries(x, 1, 0, 2, 2, 1, 1, 0);
        Check.entries(x, 2, 0, 1, 4, 1, 1, 5);
        Check.entries(x, 3, 0, 0, 6);
    }

    private static void refusedCloseBehindRecords() {
        Check.sentence("A refused close changes no later answer: records, entries, events");
        Counted x = Made.ready("*");
        Made.record(x, "0=1 0=2");
        x.assemble(0, 1, 0);
        for (int n = 0; n < 130; n++) {
            x.close();
        }
        Check.due("records()", x.records(), 1);
        Check.entries(x, 0, 0, 1, 1, 1, 1, 2);
        Check.eventsNow(x, 0, 0);
        Made.record(x, "0=3");
        Check.due("records()", x.records(), 2);
        Check.events(x, 1, 1, 0, 0);
        Check.due("its value", x.event(0, 1), 3);
    }
}
