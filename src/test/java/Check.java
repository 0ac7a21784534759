/** What the tests share: each answer is held against the one that is due. */
final class Check {
    private static final int MOST_TOLD = 100;

    private static int wrong = 0;
    private static int looked = 0;
    private static String sentence = "";

    private Check() {
    }

    /** The document's words that the answers to come are held against; a wrong one is told with them. */
    static void sentence(String words) {
        sentence = words;
    }

    static void due(String call, long got, long want) {
        looked++;
        if (got != want) {
            wrong++;
            if (wrong <= MOST_TOLD) {
                System.out.println("[" + sentence + "] " + call + " answered " + got + ", due is " + want);
            }
        }
    }

    static void due(String call, boolean got, boolean want) {
        due(call, got ? 1L : 0L, want ? 1L : 0L);
    }

    /** A column's entries, three numbers each: repetition level, definition level, value. */
    static void entries(Counted x, int column, int... want) {
        due("entries(" + column + ")", x.entries(column), want.length / 3);
        for (int i = 0; i < want.length; i++) {
            due("entry(" + column + ", " + i / 3 + ", " + i % 3 + ")", x.entry(column, i / 3, i % 3), want[i]);
        }
        due("entry behind the last", x.entry(column, want.length / 3, 0), Striping.NONE);
    }

    /** A record's events, without their values. */
    static void events(Counted x, int record, int low, int high, int... want) {
        due("assemble(" + record + ", " + low + ", " + high + ")", x.assemble(record, low, high), want.length);
        eventsNow(x, want);
    }

    /** The events as they stand, without their values. */
    static void eventsNow(Counted x, int... want) {
        for (int i = 0; i < want.length; i++) {
            due("event(" + i + ", 0)", x.event(i, 0), want[i]);
        }
        due("event behind the last", x.event(want.length, 0), Striping.NONE);
    }

    static void end() {
        System.out.println(looked + " answers, " + wrong + " wrong");
        if (wrong != 0 || looked == 0) {
            System.exit(1);
        }
    }
}
