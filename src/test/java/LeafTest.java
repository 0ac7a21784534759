/** Promise 6: leaf, likewise. Its limit of 2048 is looked at in LimitsTest. */
public final class LeafTest {
    public static void main(String[] args) {
        inThatWhichIsOpen();
        anyValue();
        noRecordIsOpen();
        noFieldAtAll();
        aGroup();
        aFieldOfAnotherGroup();
        requiredFieldBeforeHasNone();
        requiredGroupBeforeHasNone();
        oneBehindHasOne();
        oneTooMany();
        anyNumberOfRepeated();
        eachOccurrenceOnItsOwn();
        refusedLeafChangesNothing();
        Check.end();
    }

    private static void inThatWhichIsOpen() {
        Check.sentence("An occurrence of a leaf, in that which is open (or the record)");
        Counted x = Made.ready("? *( ? *( * ) )");
        x.begin();
        Check.due("in the record", x.leaf(0, 1), true);
        Made.steps(x, "1(");
        Check.due("in a group", x.leaf(2, 2), true);
        Made.steps(x, "3(");
        Check.due("in a group in it", x.leaf(4, 3), true);
        Check.due("a leaf isn't gone into", x.leaf(4, 4), true);
        Made.steps(x, ") )");
        Check.due("the record's end", x.close(), true);
        Check.entries(x, 0, 0, 1, 1);
        Check.entries(x, 1, 0, 2, 2);
        Check.entries(x, 2, 0, 3, 3, 3, 3, 4);
    }

    private static void anyValue() {
        Check.sentence("a value (32 bits)");
        int[] values = {0, 1, -1, Made.MAX, Made.MIN, Made.MAX - 1, Made.MIN + 1, 0x7FFF8000, 255, 256, 65535, 65536};
        Counted x = Made.ready("!( * ) ?");
        Made.openRecord(x, "0(");
        for (int v : values) {
            Check.due("leaf(1, " + v + ")", x.leaf(1, v), true);
        }
        Made.steps(x, ")");
        Check.due("leaf(2, MIN)", x.leaf(2, Made.MIN), true);
        Check.due("the record's end", x.close(), true);
        Check.due("assemble", x.assemble(0, 3, 0), values.length + 3);
        for (int k = 0; k < values.length; k++) {
            Check.due("entry(0, " + k + ", 2)", x.entry(0, k, 2), values[k]);
            Check.due("entry(0, " + k + ", 1)", x.entry(0, k, 1), 1);
            Check.due("event(" + (k + 1) + ", 1)", x.event(k + 1, 1), values[k]);
        }
        Check.entries(x, 1, 0, 1, Made.MIN);
        Check.due("the last event's value", x.event(values.length + 2, 1), Made.MIN);
    }

    private static void noRecordIsOpen() {
        Check.sentence("False if no record is open");
        Counted x = Made.fields("*");
        Check.due("before READY", x.leaf(0, 1), false);
        x.ready();
        Check.due("before the first record", x.leaf(0, 2), false);
        Made.record(x, "0=3");
        Check.due("behind a record", x.leaf(0, 4), false);
        Made.openRecord(x, "0=5");
        x.drop();
        Check.due("behind a dropped one", x.leaf(0, 6), false);
        Check.entries(x, 0, 0, 1, 3);
    }

    private static void noFieldAtAll() {
        Check.sentence("False if it is no such group's field: no field");
        Counted x = Made.ready("* *( * )");
        x.begin();
        for (int f : Made.outside(3)) {
            Check.due("leaf(" + f + ", 1) in the record", x.leaf(f, 1), false);
        }
        Made.steps(x, "1(");
        for (int f : Made.outside(3)) {
            Check.due("leaf(" + f + ", 1) in a group", x.leaf(f, 1), false);
        }
        Made.steps(x, "2=8 )");
        Check.due("the record's end", x.close(), true);
        Check.entries(x, 0, 0, 0, 0);
        Check.entries(x, 1, 0, 2, 8);

        Counted y = Made.ready("?".repeat(48));
        y.begin();
        for (int f : Made.outside(48)) {
            Check.due("leaf(" + f + ", 1) of 48", y.leaf(f, 1), false);
        }
        Check.due("leaf(0, 1) of 48", y.leaf(0, 1), true);
        Check.due("leaf(47, 1) of 48", y.leaf(47, 1), true);
    }

    private static void aGroup() {
        Check.sentence("An occurrence of a leaf: a group is none");
        Counted x = Made.ready("*( ?( * ) )");
        x.begin();
        Check.due("leaf of a REPEATED group", x.leaf(0, 1), false);
        Made.steps(x, "0(");
        Check.due("leaf of an OPTIONAL group", x.leaf(1, 1), false);
        Check.due("it has none yet", x.open(1), true);
        Made.steps(x, ") )");
        Check.due("the record's end", x.close(), true);
        Check.entries(x, 0, 0, 2, 0);
    }

    private static void aFieldOfAnotherGroup() {
        Check.sentence("False if it is no such group's field: another's");
        Counted x = Made.ready("* *( * *( * ) ) *( * ) *");
        x.begin();
        Check.due("of a group that isn't open", x.leaf(2, 1), false);
        Check.due("of one in it", x.leaf(4, 1), false);
        Check.due("of a later one", x.leaf(6, 1), false);
        Made.steps(x, "1(");
        Check.due("the record's, before it", x.leaf(0, 1), false);
        Check.due("the record's, behind it", x.leaf(7, 1), false);
        Check.due("of a group in it that isn't open", x.leaf(4, 1), false);
        Check.due("of another group", x.leaf(6, 1), false);
        Made.steps(x, "3(");
        Check.due("of the group around it", x.leaf(2, 1), false);
        Check.due("its own", x.leaf(4, 1), true);
        Made.steps(x, ") )");
        Check.due("of the groups behind their ends", x.leaf(4, 1), false);
        Check.due("and of the outer", x.leaf(2, 1), false);
        Made.steps(x, "5(");
        Check.due("of the one before", x.leaf(4, 1), false);
        Check.due("its own", x.leaf(6, 1), true);
    }

    private static void requiredFieldBeforeHasNone() {
        Check.sentence("False if a field before it that is REQUIRED has none: a leaf");
        Counted x = Made.ready("! ? ! * ?( ! * )");
        x.begin();
        Check.due("right behind the first", x.leaf(1, 1), false);
        Check.due("the next REQUIRED one", x.leaf(2, 1), false);
        Check.due("the last", x.leaf(3, 1), false);
        Made.steps(x, "0=1");
        Check.due("the last without the third", x.leaf(3, 1), false);
        Check.due("the third without the second", x.leaf(2, 2), true);
        Check.due("the last", x.leaf(3, 3), true);
        Made.steps(x, "4(");
        Check.due("in the group, behind its REQUIRED one", x.leaf(6, 1), false);
        Made.steps(x, "5=4 6=5 )");
        Check.due("the record's end", x.close(), true);
        Check.entries(x, 1, 0, 0, 0);
        Check.entries(x, 2, 0, 0, 2);
        Check.entries(x, 3, 0, 1, 3);
        Check.entries(x, 5, 0, 2, 5);
    }

    private static void requiredGroupBeforeHasNone() {
        Check.sentence("False if a field before it that is REQUIRED has none: a group");
        Counted x = Made.ready("!( ? ) * ?( !( ? ) ! )");
        x.begin();
        Check.due("behind it", x.leaf(2, 1), false);
        Made.steps(x, "0( )");
        Check.due("behind its occurrence", x.leaf(2, 1), true);
        Made.steps(x, "3(");
        Check.due("in a group, behind it", x.leaf(6, 1), false);
        Made.steps(x, "4( )");
        Check.due("in a group, behind its occurrence", x.leaf(6, 1), true);
    }

    private static void oneBehindHasOne() {
        Check.sentence("False if one behind it has one already");
        Counted x = Made.ready("* ? * *( ? * )");
        Made.openRecord(x, "0=1 0=2 2=3");
        Check.due("the first", x.leaf(0, 4), false);
        Check.due("the one right before", x.leaf(1, 5), false);
        Check.due("itself has none behind it", x.leaf(2, 6), true);
        Made.steps(x, "3( 5=7");
        Check.due("in a group", x.leaf(4, 8), false);
        Made.steps(x, ")");
        Check.due("before a group that has one", x.leaf(2, 9), false);
        Made.steps(x, "3(");
        Check.due("in the next occurrence none behind has one", x.leaf(4, 10), true);
        Made.steps(x, ")");
        Check.due("the record's end", x.close(), true);
        Check.entries(x, 0, 0, 1, 1, 1, 1, 2);
        Check.entries(x, 1, 0, 0, 0);
        Check.entries(x, 2, 0, 1, 3, 1, 1, 6);
        Check.entries(x, 3, 0, 1, 0, 1, 2, 10);
        Check.entries(x, 4, 0, 2, 7, 1, 1, 0);
    }

    private static void oneTooMany() {
        Check.sentence("False if it is one too many");
        Counted x = Made.ready("! ? *( ! ? )");
        x.begin();
        Check.due("REQUIRED", x.leaf(0, 1), true);
        Check.due("REQUIRED twice", x.leaf(0, 2), false);
        Check.due("OPTIONAL", x.leaf(1, 3), true);
        Check.due("OPTIONAL twice", x.leaf(1, 4), false);
        Made.steps(x, "2(");
        Check.due("REQUIRED in a group", x.leaf(3, 5), true);
        Check.due("REQUIRED in a group twice", x.leaf(3, 6), false);
        Check.due("OPTIONAL in a group", x.leaf(4, 7), true);
        Check.due("OPTIONAL in a group twice", x.leaf(4, 8), false);
        Made.steps(x, ")");
        Check.due("the record's end", x.close(), true);
        Check.entries(x, 0, 0, 0, 1);
        Check.entries(x, 1, 0, 1, 3);
        Check.entries(x, 2, 0, 1, 5);
        Check.entries(x, 3, 0, 2, 7);
    }

    private static void anyNumberOfRepeated() {
        Check.sentence("of a REPEATED one any number");
        Counted x = Made.ready("*");
        x.begin();
        for (int n = 0; n < 500; n++) {
            Check.due("occurrence " + n, x.leaf(0, n), true);
        }
        Check.due("the record's end", x.close(), true);
        Check.due("entries(0)", x.entries(0), 500);
        Check.due("the last one's R", x.entry(0, 499, 0), 1);
        Check.due("the last one's value", x.entry(0, 499, 2), 499);
        Check.due("none behind it", x.entry(0, 500, 2), -1);
        Check.due("assemble", x.assemble(0, 1, 0), 500);
        Check.due("the last event's value", x.event(499, 1), 499);
        Made.record(x, "");
    }

    private static void eachOccurrenceOnItsOwn() {
        Check.sentence("Each occurrence of a group has occurrences of its fields");
        Counted x = Made.ready("*( ! ? )");
        Made.openRecord(x, "0( 1=1 2=2 ) 0(");
        Check.due("the first one's REQUIRED leaf doesn't count for the second", x.leaf(2, 3), false);
        Check.due("nor does it fill it", x.leaf(1, 4), true);
        Check.due("nor does the OPTIONAL one", x.leaf(2, 5), true);
        Made.steps(x, ")");
        Check.due("the record's end", x.close(), true);
        Made.openRecord(x, "0(");
        Check.due("nor does the last record's", x.leaf(2, 3), false);
    }

    private static void refusedLeafChangesNothing() {
        Check.sentence("A refused leaf changes no later answer");
        Counted x = Made.ready("! ? *( ! ? )");
        x.begin();
        x.leaf(1, 90);
        x.leaf(2, 91);
        Check.due("the REQUIRED one may still come", x.leaf(0, 1), true);
        x.leaf(0, 92);
        x.leaf(3, 93);
        x.leaf(Made.MAX, 94);
        x.leaf(Made.MIN, 95);
        Made.steps(x, "2(");
        x.leaf(1, 96);
        x.leaf(4, 97);
        Check.due("the group's REQUIRED one may still come", x.leaf(3, 2), true);
        x.leaf(3, 98);
        Made.steps(x, "4=3");
        x.leaf(4, 99);
        Made.steps(x, ")");
        x.leaf(1, 100);
        Check.due("the record's end", x.close(), true);
        x.leaf(0, 101);
        Check.due("records()", x.records(), 1);
        Check.entries(x, 0, 0, 0, 1);
        Check.entries(x, 1, 0, 0, 0);
        Check.entries(x, 2, 0, 1, 2);
        Check.entries(x, 3, 0, 2, 3);
        Check.events(x, 0, -1, -1, 0, 4, 6, 8, 5);
    }
}
