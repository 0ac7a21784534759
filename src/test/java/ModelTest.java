import java.util.List;
import java.util.Random;

/** Promises 1 to 14 together: runs of at most 512 calls, each answer held against the Model's. */
public final class ModelTest {
    private static final int[] EDGES = {
        Integer.MIN_VALUE, Integer.MIN_VALUE + 1, -2, -1, 0, 47, 48, 127, 128, 256, 65536, 0x40000000, 0x55555556,
        Integer.MAX_VALUE - 1, Integer.MAX_VALUE,
    };

    private final Random dice;
    private final Counted x = new Counted();
    private final Model y = new Model();

    private ModelTest(long seed) {
        dice = new Random(seed);
    }

    public static void main(String[] args) {
        for (int seed = 0; seed < 4000; seed++) {
            Check.sentence("run " + seed);
            new ModelTest(seed).run();
        }
        Check.end();
    }

    private boolean oneIn(int n) {
        return dice.nextInt(n) == 0;
    }

    private int edge() {
        return EDGES[dice.nextInt(EDGES.length)];
    }

    private int last() {
        int f = 0;
        while (y.level(f, 0) >= 0) {
            f++;
        }
        return f - 1;
    }

    private int columns() {
        int n = 0;
        for (int f = 0; f <= last(); f++) {
            n += y.level(f, 2) >= 0 ? 1 : 0;
        }
        return n;
    }

    private void run() {
        makeSchema();
        int forRecords = 250 + dice.nextInt(150);
        while (x.left() > Counted.MOST - forRecords) {
            recordStep();
        }
        while (x.left() > 8) {
            look();
        }
    }

    private void makeSchema() {
        int fields = 1 + dice.nextInt(oneIn(5) ? 60 : 12);
        int groups = 2 + dice.nextInt(3);
        int flat = 1 + dice.nextInt(4);
        for (int n = 0; n < fields; n++) {
            addField(groups, flat);
        }
        if (oneIn(3)) {
            same("ready()", x.ready(), y.ready());
        }
        for (int n = 0; n < 4 && y.entries(0) < 0; n++) {
            int kind = dice.nextInt(3);
            same("a leaf at the end", x.field(last(), kind, false), y.field(last(), kind, false));
            same("ready()", x.ready(), y.ready());
        }
    }

    /** An empty group that is left makes the schema useless, so that it is filled mostly. */
    private void addField(int groups, int flat) {
        List<Integer> parents = y.parents();
        int parent = parents.get(Math.max(0, parents.size() - 1 - dice.nextInt(flat)));
        boolean empty = last() >= 0 && y.isGroup(last());
        if (empty && !oneIn(20)) {
            parent = last();
        }
        int kind = oneIn(4) ? 0 : 1 + dice.nextInt(2);
        boolean group = oneIn(groups);
        if (oneIn(20)) {
            parent = oneIn(2) ? edge() : dice.nextInt(last() + 3) - 1;
        }
        if (oneIn(30)) {
            kind = oneIn(2) ? edge() : dice.nextInt(7) - 3;
        }
        same("field(" + parent + ", " + kind + ", " + group + ")", x.field(parent, kind, group), y.field(parent, kind, group));
        if (oneIn(4)) {
            lookAtLevel();
        }
    }

    private void recordStep() {
        int choice = dice.nextInt(40);
        if (choice < 30) {
            stepThatFits();
        } else if (choice < 36) {
            anyStep();
        } else {
            lookOnce();
        }
    }

    private void stepThatFits() {
        List<Integer> next = y.next();
        if (next.isEmpty() || oneIn(4)) {
            boolean done = y.close();
            same("close()", x.close(), done);
            if (!done && next.isEmpty()) {
                same("begin()", x.begin(), y.begin());
            }
            return;
        }
        occur(next.get(oneIn(2) ? 0 : dice.nextInt(next.size())), dice.nextInt());
    }

    private void occur(int field, int value) {
        if (y.isGroup(field)) {
            same("open(" + field + ")", x.open(field), y.open(field));
        } else {
            same("leaf(" + field + ")", x.leaf(field, value), y.leaf(field, value));
        }
    }

    private void anyStep() {
        int field = oneIn(5) ? edge() : dice.nextInt(last() + 3) - 1;
        int value = oneIn(3) ? edge() : dice.nextInt();
        switch (dice.nextInt(12)) {
            case 0 -> same("begin()", x.begin(), y.begin());
            case 1, 2 -> same("close()", x.close(), y.close());
            case 3, 4, 5 -> same("open(" + field + ")", x.open(field), y.open(field));
            case 6, 7, 8 -> same("leaf(" + field + ")", x.leaf(field, value), y.leaf(field, value));
            case 9 -> same("ready()", x.ready(), y.ready());
            case 10 -> same("field(" + field + ", 1, false)", x.field(field, 1, false), y.field(field, 1, false));
            default -> {
                if (oneIn(3)) {
                    same("drop()", x.drop(), y.drop());
                }
            }
        }
    }

    private int column() {
        if (oneIn(10)) {
            return oneIn(2) ? edge() : dice.nextInt(52) - 2;
        }
        return dice.nextInt(Math.max(1, columns()));
    }

    private void look() {
        if (oneIn(3)) {
            lookOnce();
        } else if (oneIn(3)) {
            lookAtEntries(column());
        } else {
            assemble();
        }
    }

    private void lookOnce() {
        int column = column();
        switch (dice.nextInt(7)) {
            case 0 -> lookAtLevel();
            case 1 -> same("records()", x.records(), y.records());
            case 2 -> same("entries(" + column + ")", x.entries(column), y.entries(column));
            case 3 -> lookAtEntry(column, oneIn(5) ? edge() : dice.nextInt(Math.max(0, y.entries(column)) + 3) - 1);
            case 4 -> {
                if (oneIn(4)) {
                    assemble();
                }
            }
            default -> lookAtEvent(oneIn(5) ? edge() : dice.nextInt(oneIn(3) ? 40 : 6) - 1);
        }
    }

    private int what(int count) {
        return oneIn(8) ? (oneIn(2) ? edge() : dice.nextInt(7) - 2) : dice.nextInt(count);
    }

    private void lookAtLevel() {
        int field = oneIn(5) ? edge() : dice.nextInt(last() + 3) - 1;
        int what = what(3);
        same("level(" + field + ", " + what + ")", x.level(field, what), y.level(field, what));
    }

    private void lookAtEntries(int column) {
        same("entries(" + column + ")", x.entries(column), y.entries(column));
        int k = dice.nextInt(Math.max(0, y.entries(column)) + 1);
        for (int n = 0; n < 6 && x.left() > 8; n++) {
            lookAtEntry(column, k + n);
        }
    }

    private void lookAtEntry(int column, int k) {
        int what = what(3);
        same("entry(" + column + ", " + k + ", " + what + ")", x.entry(column, k, what), y.entry(column, k, what));
    }

    private void lookAtEvent(int k) {
        int what = what(2);
        same("event(" + k + ", " + what + ")", x.event(k, what), y.event(k, what));
    }

    private void assemble() {
        int record = oneIn(10) ? edge() : dice.nextInt(y.records() + 1) - (oneIn(10) ? 1 : 0);
        int low = oneIn(3) ? -1 : dice.nextInt();
        int high = oneIn(3) ? -1 : dice.nextInt();
        if (oneIn(3)) {
            low = 1 << dice.nextInt(8) | 1 << dice.nextInt(8);
            high = 0;
        }
        int want = y.assemble(record, low, high);
        same("assemble(" + record + ", " + low + ", " + high + ")", x.assemble(record, low, high), want);
        for (int k = 0; k <= want && x.left() > 8; k++) {
            same("event(" + k + ", 0)", x.event(k, 0), y.event(k, 0));
            if (oneIn(4) && x.left() > 8) {
                same("event(" + k + ", 1)", x.event(k, 1), y.event(k, 1));
            }
        }
    }

    private void same(String call, int got, int want) {
        Check.due(call, got, want);
    }

    private void same(String call, boolean got, boolean want) {
        Check.due(call, got, want);
    }
}
