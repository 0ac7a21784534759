import java.util.Random;

/** Promises 1 to 14 together: runs of at most 512 calls, each answer held against the Model's. */
public final class ModelTest {
    private final Random dice;
    private final Striping x = new Striping();
    private final Model y = new Model();
    private int calls;

    private ModelTest(long seed) {
        dice = new Random(seed);
    }

    public static void main(String[] args) {
        for (int seed = 0; seed < 3000; seed++) {
            new ModelTest(seed).run();
        }
        Check.end();
    }

    private void run() {
        int mostFields = 1 + dice.nextInt(dice.nextInt(4) == 0 ? 60 : 12);
        int deep = dice.nextInt(3);
        for (int n = 0; n < mostFields; n++) {
            addField(deep);
        }
        for (int n = 0; n < 4 && !isReady(); n++) {
            addLeaf();
            same("ready()", x.ready(), y.ready());
        }
        while (calls < 380) {
            recordStep();
        }
        while (calls < 510) {
            look();
        }
    }

    private boolean isReady() {
        return y.entries(0) >= 0;
    }

    private int last() {
        int f = 0;
        while (y.level(f, 0) >= 0) {
            f++;
        }
        return f - 1;
    }

    private void addField(int deep) {
        int parent = last() - dice.nextInt(1 + (deep == 0 ? 6 : 2));
        if (dice.nextInt(10) == 0) {
            parent = dice.nextInt(50) - 2;
        }
        int kind = dice.nextInt(30) == 0 ? dice.nextInt(7) - 3 : dice.nextInt(3);
        boolean group = dice.nextInt(5) < 1 + deep;
        same("field", x.field(parent, kind, group), y.field(parent, kind, group));
        lookAtLevel();
    }

    private void addLeaf() {
        int kind = dice.nextInt(3);
        same("leaf field", x.field(last(), kind, false), y.field(last(), kind, false));
    }

    private void recordStep() {
        int field = dice.nextInt(last() + 3) - 1;
        int value = dice.nextInt();
        switch (dice.nextInt(dice.nextInt(8) == 0 ? 8 : 6)) {
            case 0:
                same("begin()", x.begin(), y.begin());
                break;
            case 1:
                same("close()", x.close(), y.close());
                break;
            case 2:
            case 3:
                same("open(" + field + ")", x.open(field), y.open(field));
                openFirst();
                break;
            case 4:
            case 5:
                same("leaf(" + field + ")", x.leaf(field, value), y.leaf(field, value));
                leafOfAny(value);
                break;
            case 6:
                if (dice.nextInt(4) == 0) {
                    same("drop()", x.drop(), y.drop());
                }
                break;
            default:
                look();
        }
    }

    /** A field blindly chosen is mostly refused, so that the next one that fits is looked for. */
    private void openFirst() {
        for (int f = dice.nextInt(last() + 1); f <= last() && calls < 380; f++) {
            boolean done = y.open(f);
            same("open(" + f + ")", x.open(f), done);
            if (done) {
                return;
            }
        }
    }

    private void leafOfAny(int value) {
        for (int f = dice.nextInt(last() + 1); f <= last() && calls < 380; f++) {
            boolean done = y.leaf(f, value);
            same("leaf(" + f + ")", x.leaf(f, value), done);
            if (done) {
                return;
            }
        }
    }

    private void look() {
        int column = dice.nextInt(10) == 0 ? dice.nextInt(52) - 2 : dice.nextInt(Math.max(1, columns()));
        switch (dice.nextInt(5)) {
            case 0:
                lookAtLevel();
                same("records()", x.records(), y.records());
                break;
            case 1:
                same("entries(" + column + ")", x.entries(column), y.entries(column));
                break;
            case 2:
                lookAtEntry(column);
                break;
            case 3:
                lookAtEvent();
                break;
            default:
                assemble();
        }
    }

    private int columns() {
        int n = 0;
        for (int f = 0; f <= last(); f++) {
            n += y.level(f, 2) >= 0 ? 1 : 0;
        }
        return n;
    }

    private void lookAtLevel() {
        int field = dice.nextInt(last() + 3) - 1;
        int what = dice.nextInt(5) - 1;
        same("level(" + field + ", " + what + ")", x.level(field, what), y.level(field, what));
    }

    private void lookAtEntry(int column) {
        int k = dice.nextInt(Math.max(0, y.entries(column)) + 3) - 1;
        for (int what = -1; what <= 3 && calls < 510; what++) {
            same("entry(" + column + ", " + k + ", " + what + ")", x.entry(column, k, what), y.entry(column, k, what));
        }
    }

    private void lookAtEvent() {
        int k = dice.nextInt(40) - 1;
        int what = dice.nextInt(10) == 0 ? dice.nextInt(5) - 2 : dice.nextInt(2);
        same("event(" + k + ", " + what + ")", x.event(k, what), y.event(k, what));
    }

    private void assemble() {
        int record = dice.nextInt(y.records() + 1) - (dice.nextInt(10) == 0 ? 1 : 0);
        int low = dice.nextInt();
        int high = dice.nextInt();
        if (dice.nextInt(3) == 0) {
            low = 1 << dice.nextInt(8);
            high = 0;
        }
        int want = y.assemble(record, low, high);
        same("assemble(" + record + ", " + low + ", " + high + ")", x.assemble(record, low, high), want);
        for (int k = 0; k <= want && calls < 510; k++) {
            same("event(" + k + ", 0)", x.event(k, 0), y.event(k, 0));
            if (dice.nextInt(4) == 0) {
                same("event(" + k + ", 1)", x.event(k, 1), y.event(k, 1));
            }
        }
    }

    private void same(String call, int got, int want) {
        calls++;
        Check.due(call, got, want);
    }

    private void same(String call, boolean got, boolean want) {
        calls++;
        Check.due(call, got, want);
    }
}
