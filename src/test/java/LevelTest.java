/** Promise 10: level. */
public final class LevelTest {
    private static final int NONE = Striping.NONE;

    public static void main(String[] args) {
        levelsOfAFewFields();
        lowestAndHighest();
        itsColumnOrNone();
        noSuchField();
        anotherWhat();
        levelsChangeNothing();
        Check.end();
    }

    private static void levelsOfAFewFields() {
        Check.sentence("R: how many of it and the groups around it are REPEATED; D: how many aren't REQUIRED");
        int[][] due = {
            // R, D, column
            {0, 0, 0}, {0, 1, NONE}, {1, 2, NONE}, {1, 2, NONE}, {2, 3, 1}, {1, 3, 2}, {0, 1, 3}, {1, 1, 4},
            {0, 0, NONE}, {0, 0, 5},
        };
        Counted x = Made.fields("! ?( *( !( * ? ) ) ! ) * !( ! )");
        lookAt(x, due);
        Check.due("ready()", x.ready(), 6);
        lookAt(x, due);
    }

    private static void lookAt(Counted x, int[][] due) {
        for (int f = 0; f < due.length; f++) {
            for (int what = 0; what < 3; what++) {
                Check.due("level(" + f + ", " + what + ")", x.level(f, what), due[f][what]);
            }
        }
    }

    private static void lowestAndHighest() {
        Check.sentence("R and D: 0 .. 16");
        for (int kind = 0; kind < 3; kind++) {
            String text = "!?*".charAt(kind) + "";
            Counted x = Made.fields((text + "(").repeat(15) + text);
            for (int f = 0; f < 16; f++) {
                Check.due("R of " + f + ", kind " + kind, x.level(f, 0), kind == 2 ? f + 1 : 0);
                Check.due("D of " + f + ", kind " + kind, x.level(f, 1), kind == 0 ? 0 : f + 1);
            }
        }
    }

    private static void itsColumnOrNone() {
        Check.sentence("2 its column, or NONE");
        Counted x = Made.fields("!".repeat(48));
        for (int f = 0; f < 48; f++) {
            Check.due("column of leaf " + f, x.level(f, 2), f);
        }
        Counted y = Made.fields("*( ?".repeat(8) + ")".repeat(8) + "! ".repeat(32));
        for (int f = 0; f < 16; f++) {
            Check.due("column of field " + f, y.level(f, 2), f % 2 == 0 ? NONE : f / 2);
        }
        Check.due("column of the last", y.level(47, 2), 39);
        Check.due("as many columns", y.ready(), 40);
        Check.due("column of a group behind ready", y.level(0, 2), NONE);
        Check.due("column of the last behind ready", y.level(47, 2), 39);
    }

    private static void noSuchField() {
        Check.sentence("NONE if there is none such");
        Counted x = Made.fields("* ?( *");
        for (int f : Made.outside(3)) {
            for (int what = 0; what < 3; what++) {
                Check.due("level(" + f + ", " + what + ")", x.level(f, what), NONE);
            }
        }
        Check.due("the last that there is", x.level(2, 1), 2);
        Check.due("the first that there is", x.level(0, 1), 1);
        Counted y = Made.ready("!".repeat(48));
        Check.due("level(47, 1)", y.level(47, 1), 0);
        for (int f : Made.outside(48)) {
            Check.due("level(" + f + ", 1) of 48", y.level(f, 1), NONE);
        }
    }

    private static void anotherWhat() {
        Check.sentence("NONE for another what");
        Counted x = Made.fields("* ?( *");
        for (int what : Made.outside(3)) {
            for (int f = 0; f < 3; f++) {
                Check.due("level(" + f + ", " + what + ")", x.level(f, what), NONE);
            }
            Check.due("level(3, " + what + ")", x.level(3, what), NONE);
        }
    }

    private static void levelsChangeNothing() {
        Check.sentence("A level that is NONE changes no later answer");
        Counted x = Made.fields("?( *");
        x.level(2, 0);
        x.level(0, 3);
        x.level(Made.MIN, Made.MAX);
        Check.due("the next field's number", x.field(0, 0, false), 2);
        x.level(3, 2);
        Check.due("ready()", x.ready(), 2);
        Made.openRecord(x, "0(");
        x.level(Made.MAX, Made.MIN);
        Made.steps(x, "1=4 2=5 )");
        Check.due("the record's end", x.close(), true);
        Check.entries(x, 0, 0, 2, 4);
        Check.entries(x, 1, 0, 1, 5);
    }
}
