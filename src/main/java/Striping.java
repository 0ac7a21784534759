import java.util.Arrays;

/**
 * Nested records taken apart into columns of values with two levels each, and put together again
 * for any set of columns.
 *
 * <p>Only the open record is held as it came. A closed one lives in its columns' entries alone:
 * putting it together reads nothing else.
 */
public final class Striping {
    public static final int NONE = -1;

    private static final int MAX_FIELDS = 48;
    private static final int MAX_DEPTH = 16;
    private static final int MAX_RECORDS = 128;
    private static final int MAX_OCCURRENCES = 2048;

    private static final int REQUIRED = 0;
    private static final int REPEATED = 2;

    private static final int REPETITION = 0;
    private static final int DEFINITION = 1;
    private static final int VALUE = 2;

    private final Schema schema;
    private final Draft draft;
    private final Events events;
    private final int[] cursors;
    private Columns columns;
    private int closedRecords;
    private int closedOccurrences;
    private int taken;
    private long chosen;

    public Striping() {
        schema = new Schema();
        draft = new Draft();
        events = new Events();
        cursors = new int[MAX_FIELDS];
        columns = new Columns(0);
    }

    public int field(int parent, int kind, boolean group) {
        return schema.add(parent, kind, group);
    }

    public int ready() {
        if (!schema.settle()) {
            return NONE;
        }
        columns = new Columns(schema.leaves);
        return schema.leaves;
    }

    public boolean begin() {
        if (!schema.settled || draft.begun || closedRecords >= MAX_RECORDS) {
            return false;
        }
        draft.start();
        return true;
    }

    public boolean open(int field) {
        if (!schema.isGroup(field) || !mayCome(field)) {
            return false;
        }
        draft.add(field, 0);
        draft.enter(field);
        return true;
    }

    public boolean leaf(int field, int value) {
        if (!schema.isLeaf(field) || !mayCome(field)) {
            return false;
        }
        draft.add(field, value);
        return true;
    }

    public boolean close() {
        if (!draft.begun) {
            return false;
        }
        int group = draft.group();
        if (schema.requires(group, draft.newest() + 1, schema.endOf(group))) {
            return false;
        }
        if (draft.depth > 0) {
            draft.leave();
        } else {
            keepRecord();
        }
        return true;
    }

    public boolean drop() {
        if (!draft.begun) {
            return false;
        }
        draft.clear();
        return true;
    }

    public int records() {
        return closedRecords;
    }

    public int level(int field, int what) {
        if (!schema.has(field)) {
            return NONE;
        }
        switch (what) {
            case 0:
                return schema.repetitionOf(field);
            case 1:
                return schema.definitionOf(field);
            case 2:
                return schema.columnOf(field);
            default:
                return NONE;
        }
    }

    public int entries(int column) {
        return columns.sizeOf(column);
    }

    public int entry(int column, int k, int what) {
        return columns.read(column, k, what);
    }

    public int assemble(int record, int low, int high) {
        events.clear();
        if (record < 0 || record >= closedRecords) {
            return NONE;
        }
        chosen = (low & 0xFFFFFFFFL) | ((high & 0xFFFFL) << 32);
        seek(record);
        putFields(NONE, 0);
        return events.size;
    }

    public int event(int k, int what) {
        return events.read(k, what);
    }

    /** Whether the open group, or the record, can have an occurrence of the field now. */
    private boolean mayCome(int field) {
        if (!draft.begun || schema.parentOf(field) != draft.group()) {
            return false;
        }
        if (closedOccurrences + draft.size >= MAX_OCCURRENCES) {
            return false;
        }
        int newest = draft.newest();
        if (field < newest || (field == newest && schema.kindOf(field) != REPEATED)) {
            return false;
        }
        // What lies before the newest one was looked at when that came.
        return !schema.requires(draft.group(), newest + 1, field);
    }

    private void keepRecord() {
        taken = 0;
        takeFields(NONE, 0, 0);
        closedRecords++;
        closedOccurrences += draft.size;
        draft.clear();
    }

    private void takeFields(int group, int repetition, int depth) {
        if (depth >= MAX_DEPTH) {
            return;
        }
        int end = schema.endOf(group);
        for (int f = group + 1; f < end; f++) {
            if (schema.parentOf(f) == group) {
                takeField(f, repetition, depth);
            }
        }
    }

    /**
     * The draft's next occurrence tells by its field alone whether it belongs here: an occurrence
     * of the field in a later group would have that group's own occurrence before it.
     */
    private void takeField(int field, int repetition, int depth) {
        if (draft.fieldAt(taken) != field) {
            addEmptyEntries(field, repetition);
            return;
        }
        int level = repetition;
        for (int n = 0; n < MAX_OCCURRENCES && draft.fieldAt(taken) == field; n++) {
            takeOccurrence(field, level, depth);
            level = schema.repetitionOf(field);
        }
    }

    private void takeOccurrence(int field, int repetition, int depth) {
        int value = draft.valueAt(taken);
        taken++;
        if (schema.isGroup(field)) {
            takeFields(field, repetition, depth + 1);
        } else {
            columns.add(schema.columnOf(field), repetition, schema.definitionOf(field), value);
        }
    }

    private void addEmptyEntries(int field, int repetition) {
        int definition = schema.definitionOf(schema.parentOf(field));
        long empty = schema.columnsIn(field);
        for (int c = 0; c < MAX_FIELDS; c++) {
            if (holds(empty, c)) {
                columns.add(c, repetition, definition, 0);
            }
        }
    }

    private void seek(int record) {
        for (int c = 0; c < MAX_FIELDS; c++) {
            if (holds(chosen, c)) {
                cursors[c] = columns.startOf(c, record);
            }
        }
    }

    private void putFields(int group, int depth) {
        if (depth >= MAX_DEPTH) {
            return;
        }
        int end = schema.endOf(group);
        for (int f = group + 1; f < end; f++) {
            if (schema.parentOf(f) == group) {
                putField(f, depth);
            }
        }
    }

    /** All chosen columns in a field agree on the field's own occurrences, so the first one guides. */
    private void putField(int field, int depth) {
        long wanted = schema.columnsIn(field) & chosen;
        int guide = lowestOf(wanted);
        if (guide == NONE) {
            return;
        }
        if (peek(guide, DEFINITION) < schema.definitionOf(field)) {
            passEmptyEntries(wanted);
            return;
        }
        putOccurrence(field, depth);
        for (int n = 1; n < MAX_OCCURRENCES && comesAgain(field, guide); n++) {
            putOccurrence(field, depth);
        }
    }

    private boolean comesAgain(int field, int guide) {
        return schema.kindOf(field) == REPEATED
                && peek(guide, REPETITION) == schema.repetitionOf(field);
    }

    private void putOccurrence(int field, int depth) {
        if (schema.isGroup(field)) {
            events.add(2 * field, 0);
            putFields(field, depth + 1);
            events.add(2 * field + 1, 0);
        } else {
            int column = schema.columnOf(field);
            events.add(2 * field, peek(column, VALUE));
            pass(column);
        }
    }

    private void passEmptyEntries(long wanted) {
        for (int c = 0; c < MAX_FIELDS; c++) {
            if (holds(wanted, c)) {
                pass(c);
            }
        }
    }

    private int peek(int column, int what) {
        return isCursor(column) ? columns.read(column, cursors[column], what) : NONE;
    }

    private void pass(int column) {
        if (isCursor(column)) {
            cursors[column]++;
        }
    }

    private boolean isCursor(int column) {
        return column >= 0 && column < cursors.length;
    }

    private static boolean holds(long set, int column) {
        return ((set >>> column) & 1L) != 0;
    }

    private static int lowestOf(long set) {
        for (int c = 0; c < MAX_FIELDS; c++) {
            if (holds(set, c)) {
                return c;
            }
        }
        return NONE;
    }

    /** Doubling keeps what a long run makes in all within twice what it holds at its end. */
    private static int[] withRoom(int[] row, int needed) {
        return needed <= row.length ? row : Arrays.copyOf(row, Math.max(needed, 2 * row.length));
    }

    /**
     * The fields, each behind the group that it lies in. The record itself stands as NONE: it is
     * the parent of the outermost fields, its levels and depth are 0, and it ends with the last.
     */
    private static final class Schema {
        private final int[] parents = new int[MAX_FIELDS];
        private final int[] kinds = new int[MAX_FIELDS];
        private final int[] depths = new int[MAX_FIELDS];
        private final int[] repetitions = new int[MAX_FIELDS];
        private final int[] definitions = new int[MAX_FIELDS];
        private final int[] columnNumbers = new int[MAX_FIELDS];
        private final int[] ends = new int[MAX_FIELDS];
        private final long[] columnSets = new long[MAX_FIELDS];
        private int size;
        private int leaves;
        private boolean settled;

        int add(int parent, int kind, boolean group) {
            if (settled || size >= MAX_FIELDS || kind < REQUIRED || kind > REPEATED) {
                return NONE;
            }
            if (!mayHold(parent)) {
                return NONE;
            }
            int f = size;
            parents[f] = parent;
            kinds[f] = kind;
            depths[f] = depthOf(parent) + 1;
            repetitions[f] = repetitionOf(parent) + (kind == REPEATED ? 1 : 0);
            definitions[f] = definitionOf(parent) + (kind == REQUIRED ? 0 : 1);
            columnNumbers[f] = group ? NONE : leaves;
            size++;
            stretch(f, group ? 0L : 1L << leaves);
            if (!group) {
                leaves++;
            }
            return f;
        }

        /** A group that ends with the last field is that field or lies around it. */
        private boolean mayHold(int parent) {
            if (parent == NONE) {
                return true;
            }
            return isGroup(parent) && ends[parent] == size && depths[parent] < MAX_DEPTH;
        }

        private void stretch(int field, long columnSet) {
            int f = field;
            for (int n = 0; n < MAX_DEPTH && has(f); n++) {
                ends[f] = field + 1;
                columnSets[f] |= columnSet;
                f = parents[f];
            }
        }

        boolean settle() {
            if (settled || size == 0) {
                return false;
            }
            for (int f = 0; f < size; f++) {
                if (isGroup(f) && ends[f] == f + 1) {
                    return false;
                }
            }
            settled = true;
            return true;
        }

        /** Whether a field from .. to - 1 of the group is REQUIRED. */
        boolean requires(int group, int from, int to) {
            for (int f = Math.max(from, 0); f < to && f < size; f++) {
                if (parents[f] == group && kinds[f] == REQUIRED) {
                    return true;
                }
            }
            return false;
        }

        boolean has(int field) {
            return field >= 0 && field < size;
        }

        boolean isGroup(int field) {
            return has(field) && columnNumbers[field] == NONE;
        }

        boolean isLeaf(int field) {
            return has(field) && columnNumbers[field] != NONE;
        }

        int parentOf(int field) {
            return has(field) ? parents[field] : NONE;
        }

        int kindOf(int field) {
            return has(field) ? kinds[field] : NONE;
        }

        int depthOf(int field) {
            return has(field) ? depths[field] : 0;
        }

        int repetitionOf(int field) {
            return has(field) ? repetitions[field] : 0;
        }

        int definitionOf(int field) {
            return has(field) ? definitions[field] : 0;
        }

        int columnOf(int field) {
            return has(field) ? columnNumbers[field] : NONE;
        }

        int endOf(int field) {
            return has(field) ? ends[field] : size;
        }

        long columnsIn(int field) {
            return has(field) ? columnSets[field] : 0L;
        }
    }

    /** The open record: its occurrences as they came, and the groups that stand open. */
    private static final class Draft {
        private static final int FIRST_ROOM = 32;

        private final int[] openGroups = new int[MAX_DEPTH + 1];
        private final int[] newestFields = new int[MAX_DEPTH + 1];
        private int[] fields = new int[FIRST_ROOM];
        private int[] values = new int[FIRST_ROOM];
        private int size;
        private int depth;
        private boolean begun;

        void start() {
            clear();
            begun = true;
            openGroups[0] = NONE;
            newestFields[0] = NONE;
        }

        void clear() {
            begun = false;
            size = 0;
            depth = 0;
        }

        void add(int field, int value) {
            if (size >= MAX_OCCURRENCES) {
                return;
            }
            fields = withRoom(fields, size + 1);
            values = withRoom(values, size + 1);
            fields[size] = field;
            values[size] = value;
            size++;
            newestFields[depth] = field;
        }

        void enter(int group) {
            if (depth >= MAX_DEPTH) {
                return;
            }
            depth++;
            openGroups[depth] = group;
            newestFields[depth] = NONE;
        }

        void leave() {
            if (depth > 0) {
                depth--;
            }
        }

        int group() {
            return openGroups[depth];
        }

        /** The last field that has an occurrence in the open group; NONE if it is empty. */
        int newest() {
            return newestFields[depth];
        }

        int fieldAt(int k) {
            return k >= 0 && k < size ? fields[k] : NONE;
        }

        int valueAt(int k) {
            return k >= 0 && k < size ? values[k] : 0;
        }
    }

    /** Each column's entries in one row: repetition level, definition level, value, and again. */
    private static final class Columns {
        private static final int WIDTH = 3;
        private static final int FIRST_ROOM = 8;
        // An entry ends at an occurrence, or at the record, at which no other of its column ends.
        private static final int MAX_ENTRIES = MAX_RECORDS + MAX_OCCURRENCES;

        private final int[] sizes;
        private final int[][] rows;

        Columns(int count) {
            int n = Math.max(count, 0);
            sizes = new int[n];
            rows = new int[n][WIDTH * FIRST_ROOM];
        }

        boolean has(int column) {
            return column >= 0 && column < sizes.length;
        }

        int sizeOf(int column) {
            return has(column) ? sizes[column] : NONE;
        }

        void add(int column, int repetition, int definition, int value) {
            if (!has(column) || sizes[column] >= MAX_ENTRIES) {
                return;
            }
            int start = WIDTH * sizes[column];
            int[] row = withRoom(rows[column], start + WIDTH);
            row[start + REPETITION] = repetition;
            row[start + DEFINITION] = definition;
            row[start + VALUE] = value;
            rows[column] = row;
            sizes[column]++;
        }

        int read(int column, int k, int what) {
            if (!has(column) || k < 0 || k >= sizes[column] || what < 0 || what >= WIDTH) {
                return NONE;
            }
            return rows[column][WIDTH * k + what];
        }

        /** Only a record's first entry has the repetition level 0, so those count the records. */
        int startOf(int column, int record) {
            int end = sizeOf(column);
            int before = 0;
            for (int k = 0; k < end; k++) {
                if (read(column, k, REPETITION) == 0) {
                    if (before == record) {
                        return k;
                    }
                    before++;
                }
            }
            return end;
        }
    }

    /** The events of the record that was put together last: event, value, and again. */
    private static final class Events {
        private static final int WIDTH = 2;
        private static final int FIRST_ROOM = 32;
        private static final int MAX_EVENTS = 2 * MAX_OCCURRENCES;

        private int[] row = new int[WIDTH * FIRST_ROOM];
        private int size;

        void clear() {
            size = 0;
        }

        void add(int event, int value) {
            if (size >= MAX_EVENTS) {
                return;
            }
            int start = WIDTH * size;
            row = withRoom(row, start + WIDTH);
            row[start] = event;
            row[start + 1] = value;
            size++;
        }

        int read(int k, int what) {
            if (k < 0 || k >= size || what < 0 || what >= WIDTH) {
                return NONE;
            }
            return row[WIDTH * k + what];
        }
    }
}
