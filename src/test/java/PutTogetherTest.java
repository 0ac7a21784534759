/** The document's "Terms": which events a record is, PUT TOGETHER for a set of columns, and their order. */
public final class PutTogetherTest {
    public static void main(String[] args) {
        aLeafIsOneEvent();
        aGroupBeginsAndEnds();
        inTheirOrder();
        groupsInWhichSuchAFieldLies();
        groupsInWhichNoneLies();
        emptyGroupsToo();
        groupsWhoseOtherLeavesAreLeftOut();
        aGuideThatIsMissing();
        groupsWithoutOccurrenceAmongOthers();
        sparseColumns();
        severalRecords();
        fieldNumbersUpTo47();
        deepGroups();
        Check.end();
    }

    private static void aLeafIsOneEvent() {
        Check.sentence("2 f when field f begins (of a leaf that is all)");
        Counted x = Made.ready("! ? *");
        Made.record(x, "0=1 1=2 2=3 2=4");
        Check.events(x, 0, 7, 0, 0, 2, 4, 4);
        Made.record(x, "0=5");
        Check.events(x, 1, 7, 0, 0);
    }

    private static void aGroupBeginsAndEnds() {
        Check.sentence("2 f when field f begins, 2 f + 1 when a group f ends");
        Counted x = Made.ready("!( ?( *( ? ) ) )");
        Made.record(x, "0( 1( 2( 3=1 ) 2( ) ) )");
        Check.events(x, 0, 1, 0, 0, 2, 4, 6, 5, 4, 5, 3, 1);
        Made.record(x, "0( )");
        Check.events(x, 1, 1, 0, 0, 1);
        Made.record(x, "0( 1( ) )");
        Check.events(x, 2, 1, 0, 0, 2, 3, 1);
    }

    private static void inTheirOrder() {
        Check.sentence("all its occurrences, in their order");
        Counted x = sample();
        Check.events(x, 0, 15, 0, 0, 2, 4, 3, 2, 6, 8, 8, 7, 3, 2, 4, 6, 7, 3, 10, 10);
        int[] values = {10, 0, 20, 0, 0, 0, 40, 41, 0, 0, 0, 21, 0, 0, 0, 50, 51};
        for (int k = 0; k < values.length; k++) {
            Check.due("event(" + k + ", 1)", x.event(k, 1), values[k]);
        }
    }

    private static Counted sample() {
        Counted x = Made.ready("? *( ? ?( * ) ) *");
        Made.record(x, "0=10 1( 2=20 ) 1( 3( 4=40 4=41 ) ) 1( 2=21 3( ) ) 5=50 5=51");
        Made.record(x, "");
        Made.record(x, "5=52");
        return x;
    }

    private static void groupsInWhichSuchAFieldLies() {
        Check.sentence("of groups in which such a field lies");
        Counted x = sample();
        Check.events(x, 0, 1, 0, 0);
        Check.events(x, 0, 2, 0, 2, 4, 3, 2, 3, 2, 4, 3);
        Check.events(x, 0, 4, 0, 2, 3, 2, 6, 8, 8, 7, 3, 2, 6, 7, 3);
        Check.events(x, 0, 8, 0, 10, 10);
        Check.events(x, 0, 9, 0, 0, 10, 10);
        Check.events(x, 0, 12, 0, 2, 3, 2, 6, 8, 8, 7, 3, 2, 6, 7, 3, 10, 10);
        Check.events(x, 0, 0, 0);
    }

    private static void groupsInWhichNoneLies() {
        Check.sentence("of groups in which such a field lies: of no others, whatever their kind");
        Counted x = Made.ready("!( ! ) ?( !( ! ) ? ) *( ! ) !");
        Made.record(x, "0( 1=1 ) 2( 3( 4=2 ) 5=3 ) 6( 7=4 ) 6( 7=5 ) 8=6");
        Check.events(x, 0, 1, 0, 0, 2, 1);
        Check.events(x, 0, 2, 0, 4, 6, 8, 7, 5);
        Check.events(x, 0, 4, 0, 4, 10, 5);
        Check.events(x, 0, 8, 0, 12, 14, 13, 12, 14, 13);
        Check.events(x, 0, 16, 0, 16);
        Check.events(x, 0, 0, 0);
    }

    private static void emptyGroupsToo() {
        Check.sentence("of groups in which such a field lies: if they have no occurrence of it, too");
        Counted x = Made.ready("*( ? *( * ) )");
        Made.record(x, "0( ) 0( 2( ) 2( ) )");
        Check.events(x, 0, 1, 0, 0, 1, 0, 1);
        Check.events(x, 0, 2, 0, 0, 1, 0, 4, 5, 4, 5, 1);
        Check.events(x, 0, 3, 0, 0, 1, 0, 4, 5, 4, 5, 1);
    }

    private static void groupsWhoseOtherLeavesAreLeftOut() {
        Check.sentence("leaves that are columns of the set: others are left out, their groups stay");
        Counted x = Made.ready("*( * ) *( ! * )");
        Made.record(x, "0( 1=1 1=2 ) 2( 3=3 4=4 4=5 ) 2( 3=6 ) 2( 3=7 4=8 )");
        Check.events(x, 0, 4, 0, 4, 8, 8, 5, 4, 5, 4, 8, 5);
        Check.due("the last value", x.event(7, 1), 8);
        Check.events(x, 0, 2, 0, 4, 6, 5, 4, 6, 5, 4, 6, 5);
        Check.due("the last value", x.event(7, 1), 7);
        Check.events(x, 0, 5, 0, 0, 2, 2, 1, 4, 8, 8, 5, 4, 5, 4, 8, 5);
    }

    /** The first chosen column in a group has no value where the second has, and the other way round. */
    private static void aGuideThatIsMissing() {
        Check.sentence("all its occurrences of leaves that are columns of the set");
        Counted x = Made.ready("*( *( ? ) *( ? ) )");
        Made.record(x, "0( 3( 4=1 ) 3( 4=2 ) ) 0( 1( 2=3 ) 1( ) ) 0( 1( ) 3( 4=4 ) )");
        Check.events(x, 0, 3, 0, 0, 6, 8, 7, 6, 8, 7, 1, 0, 2, 4, 3, 2, 3, 1, 0, 2, 3, 6, 8, 7, 1);
        Check.events(x, 0, 1, 0, 0, 1, 0, 2, 4, 3, 2, 3, 1, 0, 2, 3, 1);
        Check.events(x, 0, 2, 0, 0, 6, 8, 7, 6, 8, 7, 1, 0, 1, 0, 6, 8, 7, 1);
    }

    /** Where a group has none, each of its columns has an entry of its own to be passed over. */
    private static void groupsWithoutOccurrenceAmongOthers() {
        Check.sentence("all its occurrences: behind a group that had none, for several columns in it");
        Counted x = Made.ready("*( ?( ? ? *( ! ? ) ) )");
        Made.record(x, "0( ) 0( 1( 2=1 3=2 4( 5=3 6=4 ) ) ) 0( ) 0( 1( 3=5 ) ) 0( 1( 2=6 3=7 4( 5=8 ) 4( 5=9 6=10 ) ) )");
        Check.events(x, 0, 15, 0, 0, 1, 0, 2, 4, 6, 8, 10, 12, 9, 3, 1, 0, 1, 0, 2, 6, 3, 1,
                0, 2, 4, 6, 8, 10, 9, 8, 10, 12, 9, 3, 1);
        Check.due("the last value", x.event(28, 1), 10);
        Check.events(x, 0, 10, 0, 0, 1, 0, 2, 6, 8, 12, 9, 3, 1, 0, 1, 0, 2, 6, 3, 1, 0, 2, 6, 8, 9, 8, 12, 9, 3, 1);
    }

    private static void sparseColumns() {
        Check.sentence("for a set of columns: columns apart from one another");
        Counted x = Made.ready("?".repeat(46) + "*( * )");
        Made.record(x, "0=1 31=2 32=3 46( 47=4 47=5 ) 46( )");
        Check.events(x, 0, 1, 1 << 14, 0, 92, 94, 94, 93, 92, 93);
        Check.events(x, 0, Made.MIN, 1, 62, 64);
        Check.events(x, 0, -1, -1, 0, 62, 64, 92, 94, 94, 93, 92, 93);
        Check.events(x, 0, 6, 6);
    }

    private static void severalRecords() {
        Check.sentence("a record is EVENTS: each record its own");
        Counted x = sample();
        Check.events(x, 2, 15, 0, 10);
        Check.due("its value", x.event(0, 1), 52);
        Check.events(x, 1, 15, 0);
        Check.events(x, 2, 7, 0);
        Made.record(x, "1( 2=22 ) 1( 2=23 )");
        Check.events(x, 3, 15, 0, 2, 4, 3, 2, 4, 3);
        Check.due("its value", x.event(4, 1), 23);
        Check.events(x, 0, 8, 0, 10, 10);
    }

    private static void fieldNumbersUpTo47() {
        Check.sentence("2 f and 2 f + 1: of the last field and the last group");
        Counted x = Made.ready("!".repeat(46) + "!( !");
        StringBuilder text = new StringBuilder();
        for (int f = 0; f < 46; f++) {
            text.append(f).append("=0 ");
        }
        Made.record(x, text + "46( 47=7 )");
        Check.events(x, 0, 0, 1 << 14, 92, 94, 93);
        Check.due("its value", x.event(1, 1), 7);
        Check.due("all", x.assemble(0, -1, -1), 49);
    }

    private static void deepGroups() {
        Check.sentence("in their order: 16 in one another");
        Counted x = Made.ready("*(".repeat(15) + "*");
        x.begin();
        for (int f = 0; f < 15; f++) {
            x.open(f);
        }
        x.leaf(15, 1);
        for (int f = 0; f < 16; f++) {
            Check.due("close()", x.close(), true);
        }
        Check.due("assemble(0, 1, 0)", x.assemble(0, 1, 0), 31);
        for (int k = 0; k < 31; k++) {
            Check.due("event(" + k + ", 0)", x.event(k, 0), k < 16 ? 2 * k : 2 * (30 - k) + 1);
        }
        Check.due("none behind it", x.event(31, 0), -1);
    }
}
