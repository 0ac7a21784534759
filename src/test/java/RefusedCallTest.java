import java.util.ArrayList;
import java.util.List;
import java.util.function.Supplier;

/**
 * In each of many states every call is made with many arguments. If it is refused (or only reads),
 * all later answers are held against those of an object that never had the call: what can be read,
 * and what can be read behind each other call that may come next.
 */
public final class RefusedCallTest {
    private interface Answer {
        int of(Counted x);
    }

    private static final class Call {
        final String name;
        final boolean reads;
        final Answer answer;

        Call(String name, boolean reads, Answer answer) {
            this.name = name;
            this.reads = reads;
            this.answer = answer;
        }
    }

    private static final int NONE = Striping.NONE;
    private static final String MIXED = "! ?( ! * ) *( ? *( * ) )";
    private static final String DEEP = "?(".repeat(15) + "*";

    private final String name;
    private final int fields;
    private final Supplier<Counted> state;
    private final List<Call> next;
    private final int[] untouched;

    private RefusedCallTest(String name, int fields, Supplier<Counted> state) {
        this.name = name;
        this.fields = fields;
        this.state = state;
        this.next = changes();
        this.untouched = later(state);
    }

    public static void main(String[] args) {
        Check.sentence("A refused call changes no later answer");
        look("a new object", 0, Counted::new);
        look("one leaf", 1, () -> Made.fields("?"));
        look("an empty group", 3, () -> Made.fields("! *( ?("));
        look("not READY", 8, () -> Made.fields(MIXED));
        look("READY", 8, () -> Made.ready(MIXED));
        look("an empty open record", 8, () -> opened(""));
        look("a leaf in an open record", 8, () -> opened("0=1"));
        look("in a group without its REQUIRED leaf", 8, () -> opened("0=1 1("));
        look("in a group with it", 8, () -> opened("0=1 1( 2=2"));
        look("in a group with more", 8, () -> opened("0=1 1( 2=2 3=3 3=4"));
        look("behind a group", 8, () -> opened("0=1 1( 2=2 )"));
        look("in a group in a group", 8, () -> opened("0=1 4( 5=5 6( 7=6"));
        look("behind a group in a group", 8, () -> opened("0=1 4( 5=5 6( 7=6 )"));
        look("in a further group", 8, () -> opened("0=1 4( 5=5 6( 7=6 ) 6( ) ) 4("));
        look("a closed record", 8, () -> closed());
        look("two, and one put together", 8, () -> assembled());
        look("another open", 8, () -> assembledAndOpen());
        look("another dropped", 8, () -> assembledAndDropped());
        look("47 fields", 47, () -> Made.fields("!".repeat(46) + "?("));
        look("48 fields", 48, () -> Made.fields("? *( " + "!".repeat(46)));
        look("48 fields, READY", 48, () -> Made.ready("? *( " + "!".repeat(46)));
        look("16 in one another", 16, () -> Made.fields("*(".repeat(16)));
        look("16 in one another, open", 16, () -> deep(15));
        look("127 records", 1, () -> many(127));
        look("127 records and an open one", 1, () -> manyAndOpen());
        look("128 records", 1, () -> many(128));
        Check.end();
    }

    private static Counted opened(String steps) {
        Counted x = Made.ready(MIXED);
        Made.openRecord(x, steps);
        return x;
    }

    private static Counted closed() {
        Counted x = Made.ready(MIXED);
        Made.record(x, "0=1 1( 2=2 3=3 3=4 ) 4( 5=5 6( 7=6 7=7 ) ) 4( 6( ) )");
        return x;
    }

    private static Counted assembled() {
        Counted x = closed();
        Made.record(x, "0=8 4( )");
        Check.due("assemble", x.assemble(0, 0b1011, 0) > 0, true);
        return x;
    }

    private static Counted assembledAndOpen() {
        Counted x = assembled();
        Made.openRecord(x, "0=9 4( 6( 7=10");
        return x;
    }

    private static Counted assembledAndDropped() {
        Counted x = assembledAndOpen();
        Check.due("drop()", x.drop(), true);
        return x;
    }

    private static Counted deep(int open) {
        Counted x = Made.ready(DEEP);
        x.begin();
        for (int f = 0; f < open; f++) {
            Check.due("open(" + f + ")", x.open(f), true);
        }
        return x;
    }

    private static Counted many(int count) {
        Counted x = Made.ready("*");
        Made.records(x, count);
        return x;
    }

    private static Counted manyAndOpen() {
        Counted x = many(127);
        Made.openRecord(x, "0=1");
        return x;
    }

    private static void look(String name, int fields, Supplier<Counted> state) {
        RefusedCallTest test = new RefusedCallTest(name, fields, state);
        List<Call> calls = test.changes();
        calls.addAll(test.refusals());
        calls.addAll(test.reads());
        int refused = 0;
        for (Call call : calls) {
            refused += test.lookAt(call) ? 1 : 0;
        }
        Check.due(name + ": some calls are refused", refused > 0, true);
        test.lookAtAssemble();
    }

    private boolean lookAt(Call call) {
        if (!call.reads && call.answer.of(state.get()) != NONE) {
            return false;
        }
        same(call.name, later(() -> with(call)));
        return true;
    }

    private Counted with(Call call) {
        Counted x = state.get();
        call.answer.of(x);
        return x;
    }

    /** Refused or not, assemble changes the events alone; if it is refused, there are none. */
    private void lookAtAssemble() {
        int[] stays = withoutEvents(state);
        for (int r : new int[] {Made.MIN, -1, 0, 1, 2, 127, 128, Made.MAX}) {
            Call call = new Call("assemble(" + r + ", -1, -1)", false, x -> x.assemble(r, -1, -1));
            same(call.name, withoutEvents(() -> with(call)), stays);
            if (call.answer.of(state.get()) == NONE) {
                Counted x = with(call);
                for (int k = 0; k < 12; k++) {
                    Check.due(name + ": behind " + call.name + " event(" + k + ", 0)", x.event(k, 0), NONE);
                    Check.due(name + ": behind " + call.name + " event(" + k + ", 1)", x.event(k, 1), NONE);
                }
            }
        }
    }

    private void same(String call, int[] got) {
        same(call, got, untouched);
    }

    private void same(String call, int[] got, int[] want) {
        int i = 0;
        while (i < got.length && i < want.length && got[i] == want[i]) {
            i++;
        }
        String where = name + ": behind " + call + " the later answer " + i;
        Check.due(where, i < got.length ? got[i] : 0, i < want.length ? want[i] : 0);
        Check.due(where + ", how many", got.length, want.length);
    }

    private static int bit(boolean done) {
        return done ? 1 : NONE;
    }

    /** Calls that may change something, with arguments that fit in one state or another. */
    private List<Call> changes() {
        List<Call> all = new ArrayList<>();
        all.add(new Call("field(-1, 1, false)", false, x -> x.field(-1, 1, false)));
        all.add(new Call("field(0, 2, false)", false, x -> x.field(0, 2, false)));
        all.add(new Call("field(1, 1, false)", false, x -> x.field(1, 1, false)));
        all.add(new Call("field(last, 0, true)", false, x -> x.field(fields - 1, 0, true)));
        all.add(new Call("ready()", false, Counted::ready));
        all.add(new Call("begin()", false, x -> bit(x.begin())));
        all.add(new Call("close()", false, x -> bit(x.close())));
        all.add(new Call("drop()", false, x -> bit(x.drop())));
        for (int f = 0; f < fields; f += fields > 20 ? 15 : 1) {
            int field = f;
            all.add(new Call("open(" + f + ")", false, x -> bit(x.open(field))));
            all.add(new Call("leaf(" + f + ", 77)", false, x -> bit(x.leaf(field, 77))));
        }
        return all;
    }

    private List<Call> refusals() {
        List<Call> all = new ArrayList<>();
        for (int a : new int[] {Made.MIN, -2, -1, 0, 1, 4, 6, 14, 15, 16, 46, 47, 48, Made.MAX}) {
            all.add(new Call("field(" + a + ", 0, false)", false, x -> x.field(a, 0, false)));
            all.add(new Call("field(" + a + ", 2, true)", false, x -> x.field(a, 2, true)));
            all.add(new Call("open(" + a + ")", false, x -> bit(x.open(a))));
            all.add(new Call("leaf(" + a + ", MIN)", false, x -> bit(x.leaf(a, Made.MIN))));
            all.add(new Call("leaf(" + a + ", MAX)", false, x -> bit(x.leaf(a, Made.MAX))));
        }
        for (int kind : new int[] {Made.MIN, -1, 3, Made.MAX}) {
            all.add(new Call("field(-1, " + kind + ", false)", false, x -> x.field(-1, kind, false)));
            all.add(new Call("field(last, " + kind + ", true)", false, x -> x.field(fields - 1, kind, true)));
        }
        return all;
    }

    private List<Call> reads() {
        List<Call> all = new ArrayList<>();
        all.add(new Call("records()", true, Counted::records));
        for (int a : new int[] {Made.MIN, -1, 0, 1, 3, 48, Made.MAX}) {
            all.add(new Call("level(" + a + ", 0)", true, x -> x.level(a, 0)));
            all.add(new Call("level(0, " + a + ")", true, x -> x.level(0, a)));
            all.add(new Call("entries(" + a + ")", true, x -> x.entries(a)));
            all.add(new Call("entry(" + a + ", 0, 0)", true, x -> x.entry(a, 0, 0)));
            all.add(new Call("entry(0, " + a + ", 1)", true, x -> x.entry(0, a, 1)));
            all.add(new Call("entry(0, 0, " + a + ")", true, x -> x.entry(0, 0, a)));
            all.add(new Call("event(" + a + ", 0)", true, x -> x.event(a, 0)));
            all.add(new Call("event(0, " + a + ")", true, x -> x.event(0, a)));
        }
        return all;
    }

    /** All later answers of an object that can be made again and again. */
    private int[] later(Supplier<Counted> made) {
        Answers answers = new Answers(made);
        for (int k = 0; k < 12; k++) {
            int event = k;
            answers.add(x -> x.event(event, 0));
            answers.add(x -> x.event(event, 1));
        }
        laterWithoutEvents(answers, made);
        return answers.all();
    }

    private int[] withoutEvents(Supplier<Counted> made) {
        Answers answers = new Answers(made);
        laterWithoutEvents(answers, made);
        return answers.all();
    }

    private void laterWithoutEvents(Answers answers, Supplier<Counted> made) {
        answers.addAllThatCanBeRead(fields);
        for (Call call : next) {
            Answers behind = new Answers(() -> {
                Counted x = made.get();
                call.answer.of(x);
                finish(x);
                return x;
            });
            Counted x = made.get();
            answers.put(call.answer.of(x));
            answers.put(finish(x));
            behind.addAllThatCanBeRead(fields);
            behind.addRecordPutTogether();
            for (int a : behind.all()) {
                answers.put(a);
            }
        }
    }

    /** Brings an open record to its end, so that what it had in it can be read; answers how it went. */
    private int finish(Counted x) {
        int way = 0;
        for (int f = 0; f < fields; f++) {
            boolean done = x.leaf(f, 500 + f) || x.open(f);
            if (!done) {
                done = x.close() && (x.leaf(f, 600 + f) || x.open(f));
            }
            way = 31 * way + (done ? 1 : 0);
        }
        for (int n = 0; n < 17; n++) {
            way = 31 * way + (x.close() ? 1 : 0);
        }
        return way;
    }

    /** Answers to calls that change nothing, of as many objects made alike as their 512 calls ask for. */
    private static final class Answers {
        private final Supplier<Counted> made;
        private Counted x;
        private int[] row = new int[64];
        private int size;

        Answers(Supplier<Counted> made) {
            this.made = made;
            this.x = made.get();
        }

        void add(Answer call) {
            if (x.left() == 0) {
                x = made.get();
            }
            put(call.of(x));
        }

        void put(int answer) {
            if (size == row.length) {
                row = java.util.Arrays.copyOf(row, 2 * size);
            }
            row[size] = answer;
            size++;
        }

        void addAllThatCanBeRead(int fields) {
            add(Counted::records);
            for (int f = 0; f <= fields; f += fields > 20 ? 11 : 1) {
                int field = f;
                add(y -> y.level(field, 0));
                add(y -> y.level(field, 1));
                add(y -> y.level(field, 2));
                add(y -> y.entries(field));
                int last = row[size - 1];
                for (int k = Math.max(0, last - 12); k <= last; k++) {
                    int entry = k;
                    add(y -> y.entry(field, entry, 0));
                    add(y -> y.entry(field, entry, 1));
                    add(y -> y.entry(field, entry, 2));
                }
            }
        }

        void addRecordPutTogether() {
            if (x.left() < 40) {
                x = made.get();
            }
            int last = x.records() - 1;
            put(x.assemble(last, -1, -1));
            for (int k = 0; k < 16; k++) {
                put(x.event(k, 0));
                put(x.event(k, 1));
            }
        }

        int[] all() {
            return java.util.Arrays.copyOf(row, size);
        }
    }
}
