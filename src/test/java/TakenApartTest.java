/** The document's "Terms": how a record's entries come, and their levels. */
public final class TakenApartTest {
    public static void main(String[] args) {
        columnsInTheFieldsOrder();
        definitionOfAValue();
        definitionWhereThereIsNoOccurrence();
        definitionOfRequiredOnTheWay();
        definitionIs0IfNoneHadOne();
        repetitionOfARecordsFirstEntry();
        repetitionOfAFurtherOccurrence();
        repetitionOfTheOutermost();
        repetitionBehindEmptyGroups();
        requiredGroupsDontRepeat();
        eachColumnHasItsOwnEntries();
        deepest();
        entriesOfManyColumns();
        Check.end();
    }

    private static void columnsInTheFieldsOrder() {
        Check.sentence("The leaves are COLUMNS, numbered from 0 in the fields' order");
        Counted x = Made.ready("*( !( ? ) ? ) ! ?( ! )");
        Made.record(x, "0( 1( 2=10 ) 3=11 ) 4=12 5( 6=13 )");
        for (int c = 0; c < 4; c++) {
            Check.due("entry(" + c + ", 0, 2)", x.entry(c, 0, 2), 10 + c);
        }
    }

    private static void definitionOfAValue() {
        Check.sentence("Its DEFINITION level is D of the leaf, if it is a value");
        Counted x = Made.ready("! ? * ?( ! ? *( ! * ) )");
        Made.record(x, "0=0 1=0 2=0 3( 4=0 5=0 6( 7=0 8=0 ) )");
        int[] due = {0, 1, 1, 1, 2, 2, 3};
        for (int c = 0; c < due.length; c++) {
            Check.entries(x, c, 0, due[c], 0);
        }
    }

    private static void definitionWhereThereIsNoOccurrence() {
        Check.sentence("else D of the last field on the way that had an occurrence");
        Counted x = Made.ready("?( *( ?( * ) ) )");
        Made.record(x, "");
        Made.record(x, "0( )");
        Made.record(x, "0( 1( ) )");
        Made.record(x, "0( 1( 2( ) ) )");
        Made.record(x, "0( 1( 2( 3=5 ) ) )");
        Check.entries(x, 0, 0, 0, 0, 0, 1, 0, 0, 2, 0, 0, 3, 0, 0, 4, 5);
    }

    private static void definitionOfRequiredOnTheWay() {
        Check.sentence("else D of the last field on the way that had an occurrence: a REQUIRED one adds none");
        Counted x = Made.ready("?( !( !( * ! ) ) )");
        Made.record(x, "");
        Made.record(x, "0( 1( 2( 4=11 ) ) )");
        Check.entries(x, 0, 0, 0, 0, 0, 1, 0);
        Check.entries(x, 1, 0, 0, 0, 0, 1, 11);
        Check.events(x, 1, 1, 0, 0, 2, 4, 5, 3, 1);
        Check.events(x, 1, 2, 0, 0, 2, 4, 8, 5, 3, 1);
    }

    private static void definitionIs0IfNoneHadOne() {
        Check.sentence("(0 if none had one)");
        Counted x = Made.ready("? * ?( ! ) *( *( * ) ) !( ? )");
        Made.record(x, "7( )");
        for (int c = 0; c < 5; c++) {
            Check.entries(x, c, 0, 0, 0);
        }
    }

    private static void repetitionOfARecordsFirstEntry() {
        Check.sentence("Its REPETITION level is 0 for the column's first entry in the record");
        Counted x = Made.ready("*( * ) *");
        Made.record(x, "0( 1=1 1=2 ) 2=3 2=4");
        Made.record(x, "0( 1=5 ) 2=6");
        Made.record(x, "");
        Made.record(x, "0( ) 0( 1=7 )");
        Check.entries(x, 0, 0, 2, 1, 2, 2, 2, 0, 2, 5, 0, 0, 0, 0, 1, 0, 1, 2, 7);
        Check.entries(x, 1, 0, 1, 3, 1, 1, 4, 0, 1, 6, 0, 0, 0, 0, 0, 0);
    }

    private static void repetitionOfAFurtherOccurrence() {
        Check.sentence("otherwise R of the field on the way whose further occurrence has been gone into last");
        Counted x = Made.ready("*( *( * ) )");
        Made.record(x, "0( 1( 2=1 2=2 2=3 ) 1( 2=4 2=5 ) ) 0( 1( 2=6 2=7 ) )");
        Check.entries(x, 0, 0, 3, 1, 3, 3, 2, 3, 3, 3, 2, 3, 4, 3, 3, 5, 1, 3, 6, 3, 3, 7);
    }

    private static void repetitionOfTheOutermost() {
        Check.sentence("(the outermost one, if of several)");
        Counted x = Made.ready("*( *( *( ? ) ) )");
        Made.record(x, "0( 1( 2( 3=1 ) 2( ) ) 1( 2( ) ) ) 0( 1( ) ) 0( ) 0( 1( 2( 3=2 ) ) 1( ) )");
        Check.entries(x, 0, 0, 4, 1, 3, 3, 0, 2, 3, 0, 1, 2, 0, 1, 1, 0, 1, 4, 2, 2, 2, 0);
    }

    private static void repetitionBehindEmptyGroups() {
        Check.sentence("REPETITION level of an entry without a value");
        Counted x = Made.ready("*( *( * ) ? )");
        Made.record(x, "0( 1( 2=1 2=2 ) 1( ) 1( 2=3 ) ) 0( 3=4 ) 0( 1( 2=5 ) )");
        Made.record(x, "");
        Check.entries(x, 0, 0, 3, 1, 3, 3, 2, 2, 2, 0, 2, 3, 3, 1, 1, 0, 1, 3, 5, 0, 0, 0);
        Check.entries(x, 1, 0, 1, 0, 1, 2, 4, 1, 1, 0, 0, 0, 0);
    }

    private static void requiredGroupsDontRepeat() {
        Check.sentence("R: REQUIRED and OPTIONAL ones between REPEATED ones add none");
        Counted x = Made.ready("!( *( ?( !( * ) ) ) )");
        Made.record(x, "0( 1( 2( 3( 4=1 4=2 ) ) ) 1( ) 1( 2( 3( ) ) ) )");
        Check.entries(x, 0, 0, 3, 1, 2, 3, 2, 1, 1, 0, 1, 2, 0);
    }

    private static void eachColumnHasItsOwnEntries() {
        Check.sentence("For each record: each column looks for its own leaf");
        Counted x = Made.ready("! ? *");
        Made.record(x, "0=5");
        Made.record(x, "0=6 1=7 2=8 2=9 2=10");
        Check.entries(x, 0, 0, 0, 5, 0, 0, 6);
        Check.entries(x, 1, 0, 0, 0, 0, 1, 7);
        Check.entries(x, 2, 0, 0, 0, 0, 1, 8, 1, 1, 9, 1, 1, 10);
    }

    /** 15 groups and a leaf, all REPEATED: each ends twice, from within outwards. */
    private static void deepest() {
        Check.sentence("levels up to 16");
        Counted x = Made.ready("*(".repeat(15) + "*");
        x.begin();
        openFrom(x, 0);
        x.leaf(15, 100);
        x.leaf(15, 101);
        for (int f = 14; f >= 0; f--) {
            for (int g = 14; g >= f; g--) {
                Check.due("close", x.close(), true);
            }
            openFrom(x, f);
            x.leaf(15, f);
        }
        for (int f = 15; f >= 0; f--) {
            Check.due("close at the end", x.close(), true);
        }
        Check.due("entries of the deepest", x.entries(0), 17);
        for (int k = 0; k < 17; k++) {
            Check.due("repetition " + k, x.entry(0, k, 0), k == 0 ? 0 : 17 - k);
            Check.due("definition " + k, x.entry(0, k, 1), 16);
            Check.due("value " + k, x.entry(0, k, 2), k < 2 ? 100 + k : 16 - k);
        }
        Check.due("events of the deepest", x.assemble(0, 1, 0), 17 + 2 * (15 + 15 * 16 / 2));
        Check.due("the first leaf", x.event(15, 1), 100);
        Check.due("the last event", x.event(286, 0), 1);
        Check.due("none behind it", x.event(287, 0), -1);
    }

    private static void openFrom(Counted x, int first) {
        for (int f = first; f < 15; f++) {
            Check.due("open(" + f + ")", x.open(f), true);
        }
    }

    /** A group without occurrences, and one without leaves, each with all columns that it can have. */
    private static void entriesOfManyColumns() {
        Check.sentence("where there is none, an entry comes: in each of 47 columns");
        Counted x = Made.ready("*( " + "?".repeat(47) + ")");
        Made.record(x, "");
        Made.record(x, "0( 47=9 ) 0( 1=8 )");
        for (int c = 0; c < 47; c++) {
            Check.due("entries(" + c + ")", x.entries(c), 3);
            Check.due("the first one's D", x.entry(c, 0, 1), 0);
            Check.due("the second one's D", x.entry(c, 1, 1), c == 46 ? 2 : 1);
            Check.due("the third one's D", x.entry(c, 2, 1), c == 0 ? 2 : 1);
            Check.due("the third one's R", x.entry(c, 2, 0), 1);
        }
        Check.due("the last value", x.entry(46, 1, 2), 9);
        Check.due("the first value", x.entry(0, 2, 2), 8);
    }
}
