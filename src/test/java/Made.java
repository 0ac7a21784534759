/** Objects made from short texts, and the arguments that lie outside of what there is. */
final class Made {
    static final int MIN = Integer.MIN_VALUE;
    static final int MAX = Integer.MAX_VALUE;

    private Made() {
    }

    /**
     * The fields in their order: ! REQUIRED, ? OPTIONAL, * REPEATED. One with "(" right behind it is
     * a group, which goes on until its ")".
     */
    static Counted fields(String text) {
        Counted x = new Counted();
        int[] around = new int[text.length() + 1];
        around[0] = -1;
        int depth = 0;
        int number = 0;
        for (int i = 0; i < text.length(); i++) {
            int kind = "!?*".indexOf(text.charAt(i));
            if (text.charAt(i) == ')') {
                depth--;
            } else if (kind >= 0) {
                boolean group = text.startsWith("(", i + 1);
                Check.due("field " + number + " of " + text, x.field(around[depth], kind, group), number);
                if (group) {
                    depth++;
                    around[depth] = number;
                }
                number++;
            }
        }
        return x;
    }

    static Counted ready(String text) {
        Counted x = fields(text);
        Check.due("ready() of " + text, x.ready() > 0, true);
        return x;
    }

    /** A record that begins, has these steps, and ends. */
    static void record(Counted x, String text) {
        openRecord(x, text);
        Check.due("close() of the record " + text, x.close(), true);
    }

    static void openRecord(Counted x, String text) {
        Check.due("begin() of the record " + text, x.begin(), true);
        steps(x, text);
    }

    /** "3=7" is an occurrence of leaf 3, "3(" one of group 3, which ends with ")". */
    static void steps(Counted x, String text) {
        for (String step : text.split(" ")) {
            if (!step.isEmpty()) {
                Check.due(step + " of " + text, step(x, step), true);
            }
        }
    }

    private static boolean step(Counted x, String step) {
        if (step.equals(")")) {
            return x.close();
        }
        if (step.endsWith("(")) {
            return x.open(Integer.parseInt(step.substring(0, step.length() - 1)));
        }
        int split = step.indexOf('=');
        return x.leaf(Integer.parseInt(step.substring(0, split)), Integer.parseInt(step.substring(split + 1)));
    }

    static void records(Counted x, int count) {
        for (int n = 0; n < count; n++) {
            record(x, "");
        }
    }

    /**
     * Numbers outside of 0 .. count - 1: the nearest and the farthest, and some that would wrap
     * around into it if they were taken two, three or four times, shifted by, or cut to fewer bits.
     */
    static int[] outside(int count) {
        return new int[] {
            MIN, MIN + 1, -65536, -256, -128, -48, -32, -2, -1, count, count + 1, count + 32, count + 64,
            256 + count - 1, 65536 + count - 1, 0x2AAAAAAB, 0x40000000, 0x55555556, MAX - 1, MAX,
        };
    }
}
