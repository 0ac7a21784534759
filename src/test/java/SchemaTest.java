/** Promises 1 (a new object), 2 (field), 3 (ready) and 10 (level). */
public final class SchemaTest {
    private static final int NONE = Striping.NONE;

    public static void main(String[] args) {
        newObject();
        fieldNumbers();
        fieldParents();
        fieldKinds();
        fieldCount();
        fieldDepth();
        fieldAfterReady();
        readyAnswers();
        readyWithEmptyGroups();
        levels();
        levelsOfWrongArguments();
        Check.end();
    }

    private static void newObject() {
        Striping x = new Striping();
        Check.due("NONE", Striping.NONE, -1);
        Check.due("new records", x.records(), 0);
        Check.due("new level", x.level(0, 0), NONE);
        Check.due("new entries", x.entries(0), NONE);
        Check.due("new entry", x.entry(0, 0, 0), NONE);
        Check.due("new event", x.event(0, 0), NONE);
        Check.due("new assemble", x.assemble(0, -1, -1), NONE);
        Check.due("new begin", x.begin(), false);
        Check.due("new open", x.open(0), false);
        Check.due("new leaf", x.leaf(0, 1), false);
        Check.due("new close", x.close(), false);
        Check.due("new drop", x.drop(), false);
        Check.due("new ready", x.ready(), NONE);
        Check.due("the first field's number", x.field(-1, 0, false), 0);
        Striping y = new Striping();
        Check.due("another object's first field", y.field(-1, 0, false), 0);
    }

    private static void fieldNumbers() {
        Striping x = new Striping();
        Check.due("field 0", x.field(-1, 0, false), 0);
        Check.due("a refused field takes no number", x.field(-1, 3, false), NONE);
        Check.due("field 1", x.field(-1, 1, true), 1);
        Check.due("field 2", x.field(1, 2, false), 2);
    }

    private static void fieldParents() {
        Striping x = new Striping();
        Check.due("no field 0 to lie in", x.field(0, 0, true), NONE);
        Check.due("outer", x.field(-1, 0, true), 0);
        Check.due("in itself", x.field(1, 0, true), NONE);
        Check.due("in none", x.field(-2, 0, true), NONE);
        Check.due("inner", x.field(0, 0, true), 1);
        Check.due("leaf in inner", x.field(1, 0, false), 2);
        Check.due("in a leaf that is last", x.field(2, 0, false), NONE);
        Check.due("again in inner", x.field(1, 0, false), 3);
        Check.due("in outer", x.field(0, 0, false), 4);
        Check.due("inner is left", x.field(1, 0, false), NONE);
        Check.due("outer still around the last", x.field(0, 0, true), 5);
        Check.due("in the record", x.field(-1, 0, true), 6);
        Check.due("outer is left", x.field(0, 0, false), NONE);
        Check.due("an empty group is left", x.field(5, 0, false), NONE);
        Check.due("in the last group", x.field(6, 0, false), 7);
        Check.due("parent beyond all", x.field(48, 0, false), NONE);
        Check.due("parent MAX", x.field(Integer.MAX_VALUE, 0, false), NONE);
        Check.due("parent MIN", x.field(Integer.MIN_VALUE, 0, false), NONE);
    }

    private static void fieldKinds() {
        Striping x = new Striping();
        Check.due("kind -1", x.field(-1, -1, false), NONE);
        Check.due("kind 3", x.field(-1, 3, false), NONE);
        Check.due("kind MAX", x.field(-1, Integer.MAX_VALUE, true), NONE);
        Check.due("kind MIN", x.field(-1, Integer.MIN_VALUE, true), NONE);
        Check.due("kind 0", x.field(-1, 0, false), 0);
        Check.due("kind 1", x.field(-1, 1, false), 1);
        Check.due("kind 2", x.field(-1, 2, false), 2);
    }

    private static void fieldCount() {
        Striping x = new Striping();
        for (int f = 0; f < 48; f++) {
            Check.due("field of 48", x.field(-1, f % 3, false), f);
        }
        Check.due("field 48", x.field(-1, 0, false), NONE);
        Check.due("the last column", x.level(47, 2), 47);
        Check.due("no field 48", x.level(48, 2), NONE);
        Check.due("48 columns", x.ready(), 48);
    }

    private static void fieldDepth() {
        Striping x = new Striping();
        for (int f = 0; f < 16; f++) {
            Check.due("16 groups", x.field(f - 1, 2, true), f);
        }
        Check.due("the 17th, a leaf", x.field(15, 2, false), NONE);
        Check.due("the 17th, a group", x.field(15, 2, true), NONE);
        Check.due("beside the 16th", x.field(14, 2, false), 16);
        Check.due("the 16th is empty", x.ready(), NONE);
        Check.due("R at depth 16", x.level(15, 0), 16);
        Check.due("D at depth 16", x.level(15, 1), 16);

        Striping y = new Striping();
        for (int f = 0; f < 15; f++) {
            y.field(f - 1, 1, true);
        }
        Check.due("a leaf is the 16th", y.field(14, 1, false), 15);
        Check.due("one column", y.ready(), 1);
        Check.due("R of it", y.level(15, 0), 0);
        Check.due("D of it", y.level(15, 1), 16);
    }

    private static void fieldAfterReady() {
        Striping x = new Striping();
        x.field(-1, 0, true);
        x.field(0, 0, false);
        x.ready();
        Check.due("field behind ready", x.field(-1, 0, false), NONE);
        Check.due("field in a group behind ready", x.field(0, 0, false), NONE);
        Check.due("no field more", x.level(2, 0), NONE);
    }

    private static void readyAnswers() {
        Striping x = new Striping();
        Check.due("ready without fields", x.ready(), NONE);
        x.field(-1, 0, false);
        x.field(-1, 0, true);
        x.field(1, 0, false);
        x.field(1, 0, false);
        Check.due("not ready yet", x.entries(0), NONE);
        Check.due("begin before ready", x.begin(), false);
        Check.due("ready", x.ready(), 3);
        Check.due("ready again", x.ready(), NONE);
        Check.due("it stays ready", x.entries(2), 0);
        Check.due("three columns", x.entries(3), NONE);
    }

    private static void readyWithEmptyGroups() {
        Striping x = new Striping();
        x.field(-1, 0, false);
        x.field(-1, 0, true);
        Check.due("the last is empty", x.ready(), NONE);
        Check.due("it may be filled", x.field(1, 0, true), 2);
        Check.due("a group alone doesn't fill", x.ready(), NONE);
        Check.due("a leaf does", x.field(2, 0, false), 3);
        Check.due("ready then", x.ready(), 2);

        Striping y = new Striping();
        y.field(-1, 0, true);
        y.field(-1, 0, false);
        Check.due("one behind which others came", y.ready(), NONE);
        Check.due("fields may still come", y.field(-1, 0, false), 2);
    }

    private static void levels() {
        int[][] fields = {
            // parent, kind, group, R, D, column
            {-1, 0, 0, 0, 0, 0},
            {-1, 1, 1, 0, 1, -1},
            {1, 2, 1, 1, 2, -1},
            {2, 0, 1, 1, 2, -1},
            {3, 2, 0, 2, 3, 1},
            {3, 1, 0, 1, 3, 2},
            {1, 0, 0, 0, 1, 3},
            {-1, 2, 0, 1, 1, 4},
            {-1, 0, 1, 0, 0, -1},
            {8, 0, 0, 0, 0, 5},
        };
        Striping x = new Striping();
        for (int[] f : fields) {
            x.field(f[0], f[1], f[2] == 1);
        }
        lookAtLevels(x, fields);
        x.ready();
        lookAtLevels(x, fields);
    }

    private static void lookAtLevels(Striping x, int[][] fields) {
        for (int f = 0; f < fields.length; f++) {
            for (int what = 0; what < 3; what++) {
                Check.due("level(" + f + ", " + what + ")", x.level(f, what), fields[f][3 + what]);
            }
        }
    }

    private static void levelsOfWrongArguments() {
        Striping x = new Striping();
        x.field(-1, 2, false);
        for (int what : new int[] {-1, 3, Integer.MAX_VALUE, Integer.MIN_VALUE}) {
            Check.due("level of another what", x.level(0, what), NONE);
        }
        for (int field : new int[] {-1, 1, 47, 48, Integer.MAX_VALUE, Integer.MIN_VALUE}) {
            for (int what = 0; what < 3; what++) {
                Check.due("level of no field", x.level(field, what), NONE);
            }
        }
    }
}
