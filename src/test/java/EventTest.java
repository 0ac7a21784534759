/** Promise 14: event. */
public final class EventTest {
    private static final int NONE = Striping.NONE;

    public static void main(String[] args) {
        anEventOrALeafsValue();
        valueOfOthersIs0();
        noSuchEvent();
        noEventsAtAll();
        fewerEventsThanBefore();
        anotherWhat();
        eventsStayBehindOtherCalls();
        eventChangesNothing();
        Check.end();
    }

    private static void anEventOrALeafsValue() {
        Check.sentence("An event (0), or the value of a leaf's (1)");
        Counted x = Made.ready("? *( * )");
        Made.record(x, "0=-9 1( 2=8 2=0 )");
        x.assemble(0, 3, 0);
        Check.eventsNow(x, 0, 2, 4, 4, 3);
        Check.due("event(0, 1)", x.event(0, 1), -9);
        Check.due("event(2, 1)", x.event(2, 1), 8);
        Check.due("event(3, 1)", x.event(3, 1), 0);
        x.assemble(0, 2, 0);
        Check.eventsNow(x, 2, 4, 4, 3);
        Check.due("event(1, 1)", x.event(1, 1), 8);
    }

    /** Each place has had a leaf's value in it before. */
    private static void valueOfOthersIs0() {
        Check.sentence("of others 0");
        Counted x = Made.ready("* *( *( ? ) )");
        Made.record(x, "0=1 0=2 0=3 0=4 0=5 0=6");
        Made.record(x, "1( 2( 3=7 ) ) 1( )");
        Check.due("assemble(0, -1, 0)", x.assemble(0, -1, 0), 6);
        Check.due("assemble(1, -1, 0)", x.assemble(1, -1, 0), 7);
        int[] due = {0, 0, 7, 0, 0, 0, 0};
        for (int k = 0; k < due.length; k++) {
            Check.due("event(" + k + ", 1)", x.event(k, 1), due[k]);
        }
    }

    private static void noSuchEvent() {
        Check.sentence("NONE if there is none such");
        Counted x = Made.ready("*( ? )");
        Made.record(x, "0( 1=5 ) 0( )");
        Check.due("assemble(0, 1, 0)", x.assemble(0, 1, 0), 5);
        for (int k : Made.outside(5)) {
            Check.due("event(" + k + ", 0)", x.event(k, 0), NONE);
            Check.due("event(" + k + ", 1)", x.event(k, 1), NONE);
        }
        Check.due("the first that there is", x.event(0, 0), 0);
        Check.due("the last that there is", x.event(4, 0), 1);
        Check.due("its value", x.event(4, 1), 0);
    }

    private static void noEventsAtAll() {
        Check.sentence("NONE if there is none such: no events");
        Check.due("a new object", new Counted().event(0, 0), NONE);
        Counted x = Made.ready("*");
        Check.due("behind ready", x.event(0, 0), NONE);
        Made.record(x, "0=1");
        Check.due("a record isn't put together by its end", x.event(0, 0), NONE);
        Check.due("nor its value", x.event(0, 1), NONE);
        Check.due("assemble(0, 0, 0)", x.assemble(0, 0, 0), 0);
        for (int k : Made.outside(0)) {
            Check.due("event(" + k + ", 0)", x.event(k, 0), NONE);
            Check.due("event(" + k + ", 1)", x.event(k, 1), NONE);
        }
    }

    private static void fewerEventsThanBefore() {
        Check.sentence("NONE if there is none such: any more");
        Counted x = Made.ready("*");
        Made.record(x, "0=1 0=2 0=3");
        Made.record(x, "0=4 0=5");
        Made.record(x, "");
        x.assemble(0, 1, 0);
        Check.due("event(2, 1)", x.event(2, 1), 3);
        x.assemble(1, 1, 0);
        Check.due("event(1, 1)", x.event(1, 1), 5);
        Check.due("event(2, 0)", x.event(2, 0), NONE);
        Check.due("event(2, 1)", x.event(2, 1), NONE);
        x.assemble(2, 1, 0);
        Check.due("event(0, 0)", x.event(0, 0), NONE);
        Check.due("event(0, 1)", x.event(0, 1), NONE);
    }

    private static void anotherWhat() {
        Check.sentence("NONE for another what");
        Counted x = Made.ready("*( ? )");
        Made.record(x, "0( 1=5 )");
        x.assemble(0, 1, 0);
        for (int what : Made.outside(2)) {
            for (int k = 0; k < 4; k++) {
                Check.due("event(" + k + ", " + what + ")", x.event(k, what), NONE);
            }
        }
    }

    private static void eventsStayBehindOtherCalls() {
        Check.sentence("An event: of the record that was put together last");
        Counted x = Made.ready("*( ? ) ?");
        Made.record(x, "0( 1=5 ) 2=6");
        x.assemble(0, 3, 0);
        Made.openRecord(x, "0( 1=7");
        Check.eventsNow(x, 0, 2, 1, 4);
        x.drop();
        Check.eventsNow(x, 0, 2, 1, 4);
        Made.record(x, "2=8");
        Check.eventsNow(x, 0, 2, 1, 4);
        Check.due("event(3, 1)", x.event(3, 1), 6);
    }

    private static void eventChangesNothing() {
        Check.sentence("An event that is NONE changes no later answer");
        Counted x = Made.ready("*");
        x.event(0, 0);
        Made.record(x, "0=1 0=2");
        x.assemble(0, 1, 0);
        x.event(2, 0);
        x.event(0, 2);
        x.event(Made.MIN, Made.MAX);
        x.event(Made.MAX, Made.MIN);
        Check.eventsNow(x, 0, 0);
        Check.due("event(1, 1)", x.event(1, 1), 2);
        Check.entries(x, 0, 0, 1, 1, 1, 1, 2);
        Check.due("records()", x.records(), 1);
    }
}
