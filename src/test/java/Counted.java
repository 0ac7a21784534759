/**
 * A Striping whose calls are counted: behind the 512th the document leaves every answer free, so a
 * test that goes beyond it is itself wrong.
 */
final class Counted {
    static final int MOST = 512;

    private final Striping x = new Striping();
    private int calls;

    int calls() {
        return calls;
    }

    int left() {
        return MOST - calls;
    }

    private Striping next() {
        calls++;
        if (calls > MOST) {
            Check.due("the test's calls", calls, MOST);
        }
        return x;
    }

    int field(int parent, int kind, boolean group) {
        return next().field(parent, kind, group);
    }

    int ready() {
        return next().ready();
    }

    boolean begin() {
        return next().begin();
    }

    boolean open(int field) {
        return next().open(field);
    }

    boolean leaf(int field, int value) {
        return next().leaf(field, value);
    }

    boolean close() {
        return next().close();
    }

    boolean drop() {
        return next().drop();
    }

    int records() {
        return next().records();
    }

    int level(int field, int what) {
        return next().level(field, what);
    }

    int entries(int column) {
        return next().entries(column);
    }

    int entry(int column, int k, int what) {
        return next().entry(column, k, what);
    }

    int assemble(int record, int low, int high) {
        return next().assemble(record, low, high);
    }

    int event(int k, int what) {
        return next().event(k, what);
    }
}
