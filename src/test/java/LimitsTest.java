/**
 * The document's limits, each at, below and above it: 512 calls, 48 fields, 16 in one another, 128
 * records, 2048 occurrences. No 512 calls can make 2048 occurrences, so that the methods for these
 * go beyond them, where the document leaves answers free: the class has chosen to keep the limit.
 */
public final class LimitsTest {
    private static final int NONE = Striping.NONE;

    public static void main(String[] args) {
        the512thCallReads();
        eachCallUpToThe512th();
        the512thCallChanges();
        mostLeavesIn512Calls();
        mostGroupsIn512Calls();
        mostEntriesIn512Calls();
        fieldsAtTheirLimit();
        depthAtItsLimit();
        recordsAtTheirLimit();
        leavesAtTheirLimit();
        groupsAtTheirLimit();
        bothKindsCountInAllRecords();
        droppedOccurrencesLeaveRoom();
        closeAtTheLimit();
        Check.end();
    }

    private static void the512thCallReads() {
        Check.sentence("at most 512 calls: the 511th and the 512th");
        Counted x = Made.ready("*");
        for (int n = 0; n < 128; n++) {
            Made.record(x, "0=" + n);
        }
        while (x.left() > 2) {
            Check.due("entry(0, 127, 2)", x.entry(0, 127, 2), 127);
        }
        Check.due("the 511th", x.assemble(127, 1, 0), 1);
        Check.due("the 512th", x.event(0, 1), 127);
        Check.due("calls", x.calls(), 512);
    }

    private static void eachCallUpToThe512th() {
        Check.sentence("at most 512 calls: each call, again and again up to the 512th");
        for (int call = 0; call < 6; call++) {
            Counted x = Made.ready("?( * )");
            Made.record(x, "0( 1=7 1=8 )");
            Check.due("assemble(0, 1, 0)", x.assemble(0, 1, 0), 4);
            while (x.left() > 0) {
                switch (call) {
                    case 0 -> Check.due("records()", x.records(), 1);
                    case 1 -> Check.due("level(1, 1)", x.level(1, 1), 2);
                    case 2 -> Check.due("entries(0)", x.entries(0), 2);
                    case 3 -> Check.due("entry(0, 1, 2)", x.entry(0, 1, 2), 8);
                    case 4 -> Check.due("assemble(0, 1, 0)", x.assemble(0, 1, 0), 4);
                    default -> Check.due("event(2, 1)", x.event(2, 1), 8);
                }
            }
        }
        Counted y = Made.ready("*");
        while (y.left() > 1) {
            Check.due("begin()", y.begin(), true);
            Check.due("drop()", y.drop(), true);
        }
    }

    private static void the512thCallChanges() {
        Check.sentence("at most 512 calls: the 512th changes what there is");
        Counted x = Made.ready("?");
        while (x.left() > 2) {
            Check.due("records()", x.records(), 0);
        }
        Check.due("the 511th, begin()", x.begin(), true);
        Check.due("the 512th, close()", x.close(), true);

        Counted y = new Counted();
        while (y.left() > 2) {
            Check.due("ready()", y.ready(), NONE);
        }
        Check.due("the 511th, field(-1, 0, false)", y.field(-1, 0, false), 0);
        Check.due("the 512th, ready()", y.ready(), 1);

        Counted z = Made.ready("*( ? )");
        z.begin();
        while (z.left() > 2) {
            Check.due("close() or open(0)", z.calls() % 2 == 0 ? z.open(0) : z.close(), true);
        }
        Check.due("the 511th", z.open(0), true);
        Check.due("the 512th", z.leaf(1, 7), true);
    }

    private static void mostLeavesIn512Calls() {
        Check.sentence("at most 512 calls: the most occurrences of a leaf in one record");
        Counted x = fullOfLeaves(508);
        Check.due("the 512th, close()", x.close(), true);
        x = fullOfLeaves(507);
        x.close();
        Check.due("the 512th, entries(0)", x.entries(0), 507);
        x = fullOfLeaves(507);
        x.close();
        Check.due("the 512th, entry(0, 506, 2)", x.entry(0, 506, 2), 506);
        x = fullOfLeaves(506);
        x.close();
        Check.due("the 511th, assemble(0, 1, 0)", x.assemble(0, 1, 0), 506);
        Check.due("the 512th, event(505, 1)", x.event(505, 1), 505);
    }

    private static Counted fullOfLeaves(int count) {
        Counted x = Made.ready("*");
        x.begin();
        for (int n = 0; n < count; n++) {
            Check.due("leaf(0, " + n + ")", x.leaf(0, n), true);
        }
        return x;
    }

    private static void mostGroupsIn512Calls() {
        Check.sentence("at most 512 calls: the most events");
        for (int look = 0; look < 2; look++) {
            Counted x = Made.ready("*( ? )");
            x.begin();
            for (int n = 0; n < 251; n++) {
                Check.due("open(0)", x.open(0), true);
                Check.due("close()", x.close(), true);
            }
            Check.due("the record's end", x.close(), true);
            Check.due("assemble(0, 1, 0)", x.assemble(0, 1, 0), 502);
            Check.due("event(501, 0)", x.event(501, 0), 1);
            Check.due("event(" + (500 + look) + ", 1)", x.event(500 + look, 1), 0);
            Check.due("event(502, 0)", x.event(502, 0), NONE);
        }
    }

    /** 47 columns, each with an entry for each of 206 occurrences of their group. */
    private static void mostEntriesIn512Calls() {
        Check.sentence("at most 512 calls: the most entries");
        Counted x = Made.ready("*( " + "?".repeat(47) + ")");
        x.begin();
        for (int n = 0; n < 206; n++) {
            Check.due("open(0)", x.open(0), true);
            Check.due("close()", x.close(), true);
        }
        Check.due("the record's end", x.close(), true);
        for (int c = 0; c < 47; c++) {
            Check.due("entries(" + c + ")", x.entries(c), 206);
        }
        Check.due("assemble(0, -1, -1)", x.assemble(0, -1, -1), 412);
    }

    private static void fieldsAtTheirLimit() {
        Check.sentence("FIELDS, at most 48");
        for (int count = 47; count <= 49; count++) {
            Counted x = new Counted();
            for (int f = 0; f < count; f++) {
                Check.due("field " + f + " of " + count, x.field(-1, 0, false), f < 48 ? f : NONE);
            }
            Check.due("ready() with " + count, x.ready(), Math.min(count, 48));
            x.begin();
            for (int f = 0; f < count; f++) {
                Check.due("leaf(" + f + ", " + f + ")", x.leaf(f, f), f < 48);
            }
            Check.due("close()", x.close(), true);
            Check.due("assemble(0, -1, -1)", x.assemble(0, -1, -1), Math.min(count, 48));
            Check.due("level(47, 2)", x.level(47, 2), count < 48 ? NONE : 47);
            Check.due("entries(47)", x.entries(47), count < 48 ? NONE : 1);
            Check.due("entries(48)", x.entries(48), NONE);
        }
    }

    private static void depthAtItsLimit() {
        Check.sentence("at most 16 lie in one another");
        for (int count = 15; count <= 17; count++) {
            Counted x = new Counted();
            for (int f = 0; f < count; f++) {
                Check.due("field " + f + " of " + count, x.field(f - 1, 1, f < count - 1), f < 16 ? f : NONE);
            }
            Check.due("ready() with " + count, x.ready(), count < 17 ? 1 : NONE);
            Check.due("level(14, 1)", x.level(14, 1), 15);
            Check.due("level(15, 1)", x.level(15, 1), count < 16 ? NONE : 16);
            Check.due("level(16, 1)", x.level(16, 1), NONE);
        }
    }

    private static void recordsAtTheirLimit() {
        Check.sentence("At most 128 records");
        for (int count = 127; count <= 129; count++) {
            Counted x = Made.ready("*");
            for (int n = 0; n < count; n++) {
                Check.due("begin() " + n, x.begin(), n < 128);
                Check.due("close() " + n, x.close(), n < 128);
            }
            int kept = Math.min(count, 128);
            Check.due("records()", x.records(), kept);
            Check.due("entries(0)", x.entries(0), kept);
            Check.due("the last one's entry", x.entry(0, kept - 1, 1), 0);
            Check.due("none behind it", x.entry(0, kept, 1), NONE);
            Check.due("assemble of the last", x.assemble(kept - 1, 1, 0), 0);
            Check.due("assemble behind it", x.assemble(kept, 1, 0), NONE);
        }
    }

    private static Striping manyCalls(int... parents) {
        Striping x = new Striping();
        for (int f = 0; f < parents.length; f++) {
            x.field(parents[f], 2, f < parents.length - 1);
        }
        Check.due("ready()", x.ready(), 1);
        Check.due("begin()", x.begin(), true);
        return x;
    }

    private static void leavesAtTheirLimit() {
        Check.sentence("there are 2048 occurrences: leaf");
        Striping x = manyCalls(-1);
        for (int n = 1; n <= 2048; n++) {
            Check.due("leaf " + n, x.leaf(0, n), true);
        }
        Check.due("leaf 2049", x.leaf(0, 2049), false);
        Check.due("leaf 2049 again", x.leaf(0, Made.MAX), false);
        Check.due("close()", x.close(), true);
        Check.due("entries(0)", x.entries(0), 2048);
        Check.due("entry(0, 2046, 2)", x.entry(0, 2046, 2), 2047);
        Check.due("entry(0, 2047, 2)", x.entry(0, 2047, 2), 2048);
        Check.due("entry(0, 2048, 2)", x.entry(0, 2048, 2), NONE);
        Check.due("assemble(0, 1, 0)", x.assemble(0, 1, 0), 2048);
        Check.due("event(2047, 1)", x.event(2047, 1), 2048);
        Check.due("event(2048, 0)", x.event(2048, 0), NONE);
    }

    private static void groupsAtTheirLimit() {
        Check.sentence("there are 2048 occurrences: open");
        Striping x = manyCalls(-1, 0);
        for (int n = 1; n <= 2047; n++) {
            Check.due("open " + n, x.open(0), true);
            Check.due("close " + n, x.close(), true);
        }
        Check.due("open 2048", x.open(0), true);
        Check.due("leaf 2049 in it", x.leaf(1, 1), false);
        Check.due("its end", x.close(), true);
        Check.due("open 2049", x.open(0), false);
        Check.due("close()", x.close(), true);
        Check.due("entries(0)", x.entries(0), 2048);
        Check.due("assemble(0, 1, 0)", x.assemble(0, 1, 0), 4096);
        Check.due("event(4095, 0)", x.event(4095, 0), 1);
        Check.due("event(4096, 0)", x.event(4096, 0), NONE);
    }

    private static void bothKindsCountInAllRecords() {
        Check.sentence("2048 occurrences in all: of groups and leaves, in all records");
        Striping x = manyCalls(-1, 0);
        for (int n = 1; n <= 16; n++) {
            for (int m = 0; m < 64; m++) {
                Check.due("open", x.open(0), true);
                Check.due("leaf", x.leaf(1, m), true);
                Check.due("close", x.close(), true);
            }
            if (n < 16) {
                Check.due("the record's end", x.close(), true);
                Check.due("begin()", x.begin(), true);
            }
        }
        Check.due("open 2049", x.open(0), false);
        Check.due("the record's end", x.close(), true);
        Check.due("an empty record may begin", x.begin(), true);
        Check.due("open 2049 in it", x.open(0), false);
        Check.due("it may end", x.close(), true);
        Check.due("records()", x.records(), 17);
        Check.due("entries(0)", x.entries(0), 16 * 64 + 1);
    }

    private static void droppedOccurrencesLeaveRoom() {
        Check.sentence("2048 occurrences in all: dropped ones are none");
        Striping x = manyCalls(-1);
        for (int n = 0; n < 1024; n++) {
            x.leaf(0, n);
        }
        Check.due("close()", x.close(), true);
        for (int round = 0; round < 3; round++) {
            Check.due("begin()", x.begin(), true);
            for (int n = 0; n < 1024; n++) {
                Check.due("leaf", x.leaf(0, -n), true);
            }
            Check.due("leaf 2049", x.leaf(0, 1), false);
            Check.due("close() or drop()", round == 2 ? x.close() : x.drop(), true);
        }
        Check.due("entries(0)", x.entries(0), 2048);
        Check.due("assemble(1, 1, 0)", x.assemble(1, 1, 0), 1024);
        Check.due("event(1023, 1)", x.event(1023, 1), -1023);
    }

    /** Whoever is at the limit amid a record can still end what needs nothing more, or drop it. */
    private static void closeAtTheLimit() {
        Check.sentence("there are 2048 occurrences: close needs none");
        Striping x = new Striping();
        x.field(-1, 2, false);
        x.field(-1, 0, false);
        Check.due("ready()", x.ready(), 2);
        x.begin();
        for (int n = 0; n < 2048; n++) {
            Check.due("leaf", x.leaf(0, n), true);
        }
        Check.due("no room for the REQUIRED leaf", x.leaf(1, 1), false);
        Check.due("close() without it", x.close(), false);
        Check.due("drop()", x.drop(), true);
        Check.due("begin()", x.begin(), true);
        for (int n = 0; n < 2047; n++) {
            Check.due("leaf", x.leaf(0, n), true);
        }
        Check.due("the REQUIRED leaf is the 2048th", x.leaf(1, 1), true);
        Check.due("close()", x.close(), true);
        Check.due("entries(0)", x.entries(0), 2047);
        Check.due("entries(1)", x.entries(1), 1);
    }
}
