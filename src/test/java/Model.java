import java.util.ArrayList;
import java.util.List;

/**
 * The document's words done once more, slowly and in another way than the class does them: records
 * stay trees, entries are looked for leaf by leaf, and events are what a tree has left of it.
 */
final class Model {
    private static final class Field {
        int parent;
        int kind;
        boolean group;
    }

    private static final class Occurrence {
        int field;
        int value;
        Occurrence around;
        final List<Occurrence> inside = new ArrayList<>();

        int count(int f) {
            int n = 0;
            for (Occurrence o : inside) {
                n += o.field == f ? 1 : 0;
            }
            return n;
        }
    }

    private final List<Field> fields = new ArrayList<>();
    private final List<Occurrence> records = new ArrayList<>();
    private boolean ready;
    private Occurrence record;
    private Occurrence open;
    private List<int[]> events = new ArrayList<>();

    int field(int parent, int kind, boolean group) {
        boolean bad = ready || fields.size() == 48 || kind < 0 || kind > 2;
        if (bad || parent < -1 || parent >= fields.size()) {
            return -1;
        }
        if (parent != -1 && !(fields.get(parent).group && wayTo(fields.size() - 1).contains(parent))) {
            return -1;
        }
        if (parent != -1 && wayTo(parent).size() == 16) {
            return -1;
        }
        Field f = new Field();
        f.parent = parent;
        f.kind = kind;
        f.group = group;
        fields.add(f);
        return fields.size() - 1;
    }

    /** The parents that a field may have now. */
    List<Integer> parents() {
        List<Integer> all = new ArrayList<>(List.of(-1));
        for (int f : fields.isEmpty() ? List.<Integer>of() : wayTo(fields.size() - 1)) {
            if (fields.get(f).group && wayTo(f).size() < 16) {
                all.add(f);
            }
        }
        return all;
    }

    boolean isGroup(int field) {
        return fields.get(field).group;
    }

    /** The field and the groups around it, the outermost first. */
    private List<Integer> wayTo(int field) {
        List<Integer> way = new ArrayList<>();
        for (int f = field; f != -1; f = fields.get(f).parent) {
            way.add(0, f);
        }
        return way;
    }

    private List<Integer> leaves() {
        List<Integer> all = new ArrayList<>();
        for (int f = 0; f < fields.size(); f++) {
            if (!fields.get(f).group) {
                all.add(f);
            }
        }
        return all;
    }

    int ready() {
        if (ready || fields.isEmpty()) {
            return -1;
        }
        for (int g = 0; g < fields.size(); g++) {
            boolean filled = !fields.get(g).group;
            for (Field f : fields) {
                filled |= f.parent == g;
            }
            if (!filled) {
                return -1;
            }
        }
        ready = true;
        return leaves().size();
    }

    boolean begin() {
        if (!ready || record != null || records.size() == 128) {
            return false;
        }
        record = new Occurrence();
        record.field = -1;
        open = record;
        return true;
    }

    boolean open(int field) {
        Occurrence o = occur(field, 0, true);
        if (o == null) {
            return false;
        }
        open = o;
        return true;
    }

    boolean leaf(int field, int value) {
        return occur(field, value, false) != null;
    }

    private Occurrence occur(int field, int value, boolean group) {
        if (!mayCome(field) || fields.get(field).group != group) {
            return null;
        }
        Occurrence o = new Occurrence();
        o.field = field;
        o.value = value;
        o.around = open;
        open.inside.add(o);
        return o;
    }

    /** The fields of which an occurrence may come now. */
    List<Integer> next() {
        List<Integer> all = new ArrayList<>();
        for (int f = 0; f < fields.size(); f++) {
            if (mayCome(f)) {
                all.add(f);
            }
        }
        return all;
    }

    private boolean mayCome(int field) {
        if (record == null || field < 0 || field >= fields.size() || fields.get(field).parent != open.field) {
            return false;
        }
        for (int g = 0; g < fields.size(); g++) {
            if (fields.get(g).parent != open.field) {
                continue;
            }
            if (g < field && fields.get(g).kind == 0 && open.count(g) == 0) {
                return false;
            }
            if (g > field && open.count(g) > 0) {
                return false;
            }
        }
        return fields.get(field).kind == 2 || open.count(field) == 0;
    }

    boolean close() {
        if (record == null) {
            return false;
        }
        for (int g = 0; g < fields.size(); g++) {
            if (fields.get(g).parent == open.field && fields.get(g).kind == 0 && open.count(g) == 0) {
                return false;
            }
        }
        if (open == record) {
            records.add(record);
            record = null;
        } else {
            open = open.around;
        }
        return true;
    }

    boolean drop() {
        boolean was = record != null;
        record = null;
        return was;
    }

    int records() {
        return records.size();
    }

    int level(int field, int what) {
        if (field < 0 || field >= fields.size()) {
            return -1;
        }
        if (what == 2) {
            return leaves().indexOf(field);
        }
        int n = 0;
        for (int f : wayTo(field)) {
            int kind = fields.get(f).kind;
            n += what == 0 && kind == 2 || what == 1 && kind != 0 ? 1 : 0;
        }
        return what == 0 || what == 1 ? n : -1;
    }

    int entries(int column) {
        List<int[]> all = entriesOf(column);
        return all == null ? -1 : all.size();
    }

    int entry(int column, int k, int what) {
        List<int[]> all = entriesOf(column);
        return all == null || k < 0 || k >= all.size() || what < 0 || what > 2 ? -1 : all.get(k)[what];
    }

    private List<int[]> entriesOf(int column) {
        if (!ready || column < 0 || column >= leaves().size()) {
            return null;
        }
        List<Integer> way = wayTo(leaves().get(column));
        List<int[]> all = new ArrayList<>();
        for (Occurrence r : records) {
            Walk walk = new Walk(way, all);
            walk.goInto(r, 0);
        }
        return all;
    }

    /** One record's way to one leaf; further holds what was gone into since the entry before. */
    private final class Walk {
        private final List<Integer> way;
        private final List<int[]> all;
        private final List<Integer> further = new ArrayList<>();

        Walk(List<Integer> way, List<int[]> all) {
            this.way = way;
            this.all = all;
        }

        void goInto(Occurrence here, int step) {
            if (step == way.size()) {
                add(level(way.get(step - 1), 1), here.value);
                return;
            }
            int seen = 0;
            for (Occurrence o : here.inside) {
                if (o.field == way.get(step)) {
                    if (seen > 0) {
                        further.add(o.field);
                    }
                    seen++;
                    goInto(o, step + 1);
                }
            }
            if (seen == 0) {
                add(step == 0 ? 0 : level(way.get(step - 1), 1), 0);
            }
        }

        private void add(int definition, int value) {
            all.add(new int[] {further.isEmpty() ? 0 : level(further.get(0), 0), definition, value});
            further.clear();
        }
    }

    int assemble(int record, int low, int high) {
        events = new ArrayList<>();
        if (record < 0 || record >= records.size()) {
            return -1;
        }
        boolean[] shown = new boolean[fields.size()];
        List<Integer> leaves = leaves();
        for (int c = 0; c < leaves.size(); c++) {
            if (((c < 32 ? low >> c : high >> (c - 32)) & 1) == 1) {
                for (int f : wayTo(leaves.get(c))) {
                    shown[f] = true;
                }
            }
        }
        tell(records.get(record), shown);
        return events.size();
    }

    private void tell(Occurrence around, boolean[] shown) {
        for (Occurrence o : around.inside) {
            if (!shown[o.field]) {
                continue;
            }
            events.add(new int[] {2 * o.field, o.value});
            if (fields.get(o.field).group) {
                tell(o, shown);
                events.add(new int[] {2 * o.field + 1, 0});
            }
        }
    }

    int event(int k, int what) {
        return k < 0 || k >= events.size() || what < 0 || what > 1 ? -1 : events.get(k)[what];
    }
}
