/** Promise 2: field. One method for each of its words. */
public final class FieldTest {
    private static final int NONE = Striping.NONE;

    public static void main(String[] args) {
        itsNumber();
        schemaIsReady();
        thereAre48();
        thereAre48InGroups();
        kindIsnt0To2();
        parentIsNone();
        parentIsntAGroup();
        parentIsntAroundTheLastField();
        aGroupThatIsLeftStaysLeft();
        recordAlwaysMayBe();
        sixteenLieInOneAnother();
        sixteenWithALeaf();
        sixteenAmongOthers();
        refusedFieldLeavesNoTrace();
        Check.end();
    }

    private static void itsNumber() {
        Check.sentence("A new field, in a group or (parent -1) in the record: its number");
        Counted x = new Counted();
        Check.due("in the record", x.field(-1, 0, true), 0);
        Check.due("in a group", x.field(0, 1, false), 1);
        Check.due("in the group again", x.field(0, 2, true), 2);
        Check.due("in a group in it", x.field(2, 2, false), 3);
        Check.due("in the record again", x.field(-1, 2, false), 4);
    }

    private static void schemaIsReady() {
        Check.sentence("NONE if the schema is READY");
        Counted x = Made.ready("? *( ! )");
        Check.due("in the record", x.field(-1, 0, false), NONE);
        Check.due("a group in the record", x.field(-1, 0, true), NONE);
        Check.due("in the last group", x.field(1, 0, false), NONE);
        Check.due("no field more", x.level(3, 0), NONE);
        Check.due("no column more", x.entries(2), NONE);
        Made.record(x, "1( 2=5 )");
        Check.due("in the record, behind a record", x.field(-1, 0, false), NONE);
        Check.entries(x, 0, 0, 0, 0);
        Check.entries(x, 1, 0, 1, 5);

        Counted y = Made.fields("*( ! *()");
        Check.due("ready() is refused", y.ready(), NONE);
        Check.due("so that a field may come", y.field(2, 0, false), 3);
    }

    private static void thereAre48() {
        Check.sentence("NONE if there are 48");
        Counted x = new Counted();
        for (int f = 0; f < 47; f++) {
            Check.due("field " + f, x.field(-1, f % 3, false), f);
        }
        Check.due("no field 47 yet", x.level(47, 0), NONE);
        Check.due("the 48th", x.field(-1, 2, false), 47);
        Check.due("the 49th", x.field(-1, 0, false), NONE);
        Check.due("the 49th, a group", x.field(-1, 0, true), NONE);
        Check.due("the last column", x.level(47, 2), 47);
        Check.due("no field 48", x.level(48, 2), NONE);
        Check.due("ready()", x.ready(), 48);
        Check.due("the last column's entries", x.entries(47), 0);
        Check.due("no column 48", x.entries(48), NONE);
    }

    private static void thereAre48InGroups() {
        Check.sentence("NONE if there are 48: groups count too");
        Counted x = new Counted();
        for (int f = 0; f < 48; f += 2) {
            Check.due("group " + f, x.field(-1, 2, true), f);
            Check.due("a leaf in it", x.field(f, 2, false), f + 1);
        }
        Check.due("the 49th in the last group", x.field(46, 2, false), NONE);
        Check.due("the 49th in the record", x.field(-1, 2, false), NONE);
        Check.due("ready()", x.ready(), 24);

        Counted y = Made.fields("!".repeat(47) + "?(");
        Check.due("the 49th in the 48th, a group", y.field(47, 0, false), NONE);
        Check.due("which stays empty", y.ready(), NONE);
        Check.due("with no field more", y.level(48, 0), NONE);
    }

    private static void kindIsnt0To2() {
        Check.sentence("NONE if the kind isn't 0 .. 2");
        Counted x = Made.fields("?(");
        for (int kind : Made.outside(3)) {
            Check.due("kind " + kind + ", a leaf", x.field(-1, kind, false), NONE);
            Check.due("kind " + kind + ", a group", x.field(0, kind, true), NONE);
        }
        for (int kind = 0; kind < 3; kind++) {
            Check.due("kind " + kind + ", a leaf", x.field(0, kind, false), 1 + kind);
        }
        for (int kind = 0; kind < 3; kind++) {
            Check.due("kind " + kind + ", a group", x.field(-1, kind, true), 4 + kind);
        }
    }

    private static void parentIsNone() {
        Check.sentence("NONE if the parent is none");
        Counted x = Made.fields("!( *(");
        for (int parent : Made.outside(2)) {
            if (parent != -1) {
                Check.due("in " + parent + ", a leaf", x.field(parent, 0, false), NONE);
                Check.due("in " + parent + ", a group", x.field(parent, 2, true), NONE);
            }
        }
        Check.due("in the last that there is", x.field(1, 0, false), 2);
        Check.due("in the first that there is", x.field(0, 0, false), 3);
    }

    private static void parentIsntAGroup() {
        Check.sentence("NONE if the parent isn't a group");
        Counted x = Made.fields("!");
        Check.due("in the first field, a leaf", x.field(0, 0, false), NONE);
        Check.due("a group in it", x.field(0, 0, true), NONE);
        Counted y = Made.fields("*( ! ?");
        Check.due("in the last field, a leaf", y.field(2, 0, false), NONE);
        Check.due("in a leaf before it", y.field(1, 0, false), NONE);
        Check.due("in the group", y.field(0, 0, false), 3);
    }

    private static void parentIsntAroundTheLastField() {
        Check.sentence("NONE if the parent isn't the last field or a group around it");
        Counted x = Made.fields("!( ?( *( !");
        Check.due("in the innermost around the last", x.field(2, 0, false), 4);
        Check.due("in the middle one", x.field(1, 0, false), 5);
        Check.due("the innermost is left", x.field(2, 0, false), NONE);
        Check.due("in the outermost, a group", x.field(0, 0, true), 6);
        Check.due("the middle one is left", x.field(1, 0, false), NONE);
        Check.due("in the last field, a group", x.field(6, 0, true), 7);
        Check.due("in that again", x.field(7, 1, false), 8);
        Check.due("in the record", x.field(-1, 0, true), 9);
        Check.due("the outermost is left", x.field(0, 0, false), NONE);
        Check.due("and all in it", x.field(6, 0, false), NONE);
        Check.due("and in that", x.field(7, 0, false), NONE);
        Check.due("the record's group is left empty", x.field(-1, 0, true), 10);
        Check.due("and is lost", x.field(9, 0, false), NONE);
        Check.due("the new one isn't", x.field(10, 0, false), 11);
    }

    private static void aGroupThatIsLeftStaysLeft() {
        Check.sentence("NONE if the parent isn't the last field or a group around it: however often");
        Counted x = Made.fields("!( ?( * ) !( *");
        for (int n = 0; n < 5; n++) {
            Check.due("in a group that is left", x.field(1, 1, false), NONE);
            Check.due("a group in it", x.field(1, 1, true), NONE);
        }
        Check.due("in the one around the last", x.field(3, 1, false), 5);
        Check.due("in the outermost", x.field(0, 1, false), 6);
        Check.due("in the one that was left by it", x.field(3, 1, false), NONE);
        Check.due("and again", x.field(3, 1, false), NONE);
        Check.due("ready()", x.ready(), 4);
    }

    private static void recordAlwaysMayBe() {
        Check.sentence("(-1 always may be)");
        Check.due("before all", new Counted().field(-1, 0, true), 0);
        Check.due("behind a leaf", Made.fields("!").field(-1, 0, false), 1);
        Check.due("behind an empty group", Made.fields("!(").field(-1, 0, false), 1);
        Check.due("behind a leaf in a group", Made.fields("*( *").field(-1, 0, true), 2);
        Check.due("behind 16 in one another", Made.fields("*(".repeat(16)).field(-1, 2, false), 16);
    }

    private static void sixteenLieInOneAnother() {
        Check.sentence("NONE if 16 lie in one another");
        for (int kind = 0; kind < 3; kind++) {
            Counted x = new Counted();
            for (int f = 0; f < 16; f++) {
                Check.due("group " + f, x.field(f - 1, kind, true), f);
            }
            Check.due("the 17th, a leaf", x.field(15, kind, false), NONE);
            Check.due("the 17th, a group", x.field(15, kind, true), NONE);
            Check.due("no such field", x.level(16, 0), NONE);
            Check.due("R of the 16th", x.level(15, 0), kind == 2 ? 16 : 0);
            Check.due("D of the 16th", x.level(15, 1), kind == 0 ? 0 : 16);
            Check.due("another 16th, a leaf", x.field(14, kind, false), 16);
            Check.due("another 16th, a group", x.field(14, kind, true), 17);
            Check.due("in it", x.field(17, kind, false), NONE);
            Check.due("another 15th", x.field(13, kind, true), 18);
            Check.due("in it", x.field(18, kind, false), 19);
            Check.due("the 16th stays empty", x.ready(), NONE);
        }
    }

    private static void sixteenWithALeaf() {
        Check.sentence("at most 16 lie in one another: a leaf may be the 16th");
        Counted x = Made.fields("?(".repeat(15));
        Check.due("the 16th", x.field(14, 1, false), 15);
        Check.due("ready()", x.ready(), 1);
        Check.due("R of it", x.level(15, 0), 0);
        Check.due("D of it", x.level(15, 1), 16);
        Made.record(x, "0( 1( 2( 3( 4( 5( 6( 7( 8( 9( 10( 11( 12( 13( 14( 15=9 ) ) ) ) ) ) ) ) ) ) ) ) ) ) )");
        Check.entries(x, 0, 0, 16, 9);
    }

    /** It is the depth that counts, neither the fields before nor those beside. */
    private static void sixteenAmongOthers() {
        Check.sentence("NONE if 16 lie in one another: fields beside them don't count");
        Counted x = Made.fields("! ?( ! )" + "*( ! ".repeat(15));
        Check.due("the 16th", x.field(31, 1, true), 33);
        Check.due("the 17th", x.field(33, 1, false), NONE);
        Check.due("beside the 16th", x.field(31, 1, false), 34);
    }

    private static void refusedFieldLeavesNoTrace() {
        Check.sentence("A refused field changes no later answer");
        Counted x = Made.fields("! *( ?");
        for (int n = 0; n < 60; n++) {
            x.field(-1, 3, n % 2 == 0);
            x.field(2, 0, n % 2 == 0);
            x.field(3, 2, n % 2 == 0);
        }
        Check.due("the next field's number", x.field(1, 2, false), 3);
        Check.due("its R", x.level(3, 0), 2);
        Check.due("its D", x.level(3, 1), 2);
        Check.due("its column", x.level(3, 2), 2);
        Check.due("no other", x.level(4, 0), NONE);
        Check.due("ready()", x.ready(), 3);
        Made.record(x, "0=1 1( 3=2 3=3 )");
        Check.entries(x, 0, 0, 0, 1);
        Check.entries(x, 1, 0, 1, 0);
        Check.entries(x, 2, 0, 2, 2, 2, 2, 3);
    }
}
