import java.lang.reflect.Field;

/** The sentence on the second writing, and promises 7, 10, 11, 12, 14 and 15: the boundaries of each. */
public final class LookEdgesTest {
    private static final Due due = new Due();
    private static final int NONE = PlainCobol.NONE;
    private static final int LOW = Integer.MIN_VALUE;
    private static final int HIGH = Integer.MAX_VALUE;
    private static final long[] VALUES = {0, -1, 1, 1L << 31, 1L << 32, (1L << 32) - 1, -(1L << 32),
        Long.MIN_VALUE, Long.MAX_VALUE};

    public static void main(String[] args) throws ReflectiveOperationException {
        recordsByRisingKeys();
        halvesOfARecord();
        noRecord();
        segmentsInOrder();
        whatOfASegment();
        noSegment();
        signs();
        knowsTheRowAlone();
        latestActOfARecord();
        goesThroughAllActs();
        latestSign();
        rowsAsTheyStand();
        refused();
        counts();
        noCount();
        due.finish();
    }

    private static void act(PlainCobol x, int kind, long a, long b) {
        x.act(1, kind, a, b);
        due.is("commit(1)", x.commit(1), 1);
    }

    private static void recordsByRisingKeys() {
        due.sentence("Promise 7", "Of the i-th record of a file, by rising keys:");
        PlainCobol x = new PlainCobol(1);
        long[] keys = {3000001, 999999, 1000000, 5, 1999999, 0, 3999999, 3000000, 4, 999998, 1000001};
        for (long key : keys) {
            act(x, 0, key, key);
        }
        int[][] risen = {{0, 4, 5, 999998, 999999}, {0, 1, 999999}, {}, {0, 1, 999999}};
        for (int file = 0; file < 4; file++) {
            for (int i = 0; i < risen[file].length; i++) {
                due.is("key " + i + " of file " + file, x.record(file, i, 0), risen[file][i]);
                due.is("its value", x.record(file, i, 1), file * 1000000 + risen[file][i]);
            }
            due.is("behind the last of file " + file, x.record(file, risen[file].length, 0), NONE);
        }
        act(x, 1, 0, 0);
        due.is("the second one is the first then", x.record(0, 0, 0), 4);
        due.is("with its value", x.record(0, 0, 1), 4);
        due.is("the last", x.record(0, 3, 0), 999999);
        due.is("behind the last", x.record(0, 4, 0), NONE);
    }

    private static void halvesOfARecord() {
        due.sentence("Promise 7", "what = 0 its key, 1 the lowest 32 bits of its value, 2 the highest;");
        PlainCobol x = new PlainCobol(1);
        for (int i = 0; i < VALUES.length; i++) {
            act(x, 0, 2000000 + i, VALUES[i]);
            due.is("key", x.record(2, i, 0), i);
            due.is("lowest of " + VALUES[i], x.record(2, i, 1), (int) VALUES[i]);
            due.is("highest of " + VALUES[i], x.record(2, i, 2), (int) (VALUES[i] >> 32));
        }
    }

    private static void noRecord() {
        due.sentence("Promise 7", "NONE without one, and for others.");
        PlainCobol x = new PlainCobol(1);
        for (int file = 0; file < 4; file++) {
            due.is("an empty file", x.record(file, 0, 0), NONE);
        }
        act(x, 0, 1000000, 7);
        act(x, 0, 2999999, 8);
        int[] others = {-1, 3, 4, 1000, 4294, 4295, -4294, LOW, HIGH, LOW + 1, HIGH - 1};
        for (int other : others) {
            due.is("record(1, " + other + ", 0)", x.record(1, other, 0), NONE);
            due.is("record(2, " + other + ", 1)", x.record(2, other, 1), NONE);
            due.is("record(1, 0, " + other + ")", x.record(1, 0, other), NONE);
            due.is("record(" + other + ", 0, 0)", x.record(other, 0, 0), NONE);
        }
        due.is("the next one of file 1", x.record(1, 1, 0), NONE);
        due.is("the next one of file 2", x.record(2, 1, 0), NONE);
        due.is("the one ahead of file 2", x.record(2, -1, 0), NONE);
        due.is("file 0", x.record(0, 0, 0), NONE);
        due.is("file 3", x.record(3, 0, 0), NONE);
        due.is("not refused", x.refused(), 0);
        PlainCobol full = Made.filled(1000);
        due.is("the last of 1000", full.record(0, 999, 0), 999);
        due.is("behind it", full.record(0, 1000, 0), NONE);
        due.is("file 1", full.record(1, 0, 0), NONE);
    }

    private static void segmentsInOrder() {
        due.sentence("Promise 11", "Of the i-th segment, each ahead of those below it, these as they came:");
        PlainCobol x = new PlainCobol(1);
        long[] above = {0, 0, 2, 1, 4, 1, 0, 4, 7, 3};
        for (long a : above) {
            act(x, 2, a, 5);
        }
        int[] order = {1, 4, 5, 8, 6, 2, 3, 10, 7, 9};
        for (int i = 0; i < order.length; i++) {
            due.is("segment(" + i + ", 0)", x.segment(i, 0), order[i]);
        }
        act(x, 3, 4, 0);
        act(x, 2, 1, 5);
        int[] later = {1, 6, 11, 2, 3, 10, 7, 9};
        for (int i = 0; i < later.length; i++) {
            due.is("segment(" + i + ", 0)", x.segment(i, 0), later[i]);
        }
    }

    private static void whatOfASegment() {
        due.sentence("Promise 11", "what = 0 its number, 1 that of the one above (0 without), "
            + "2 how many are above it, 3, 4 the lowest and highest 32 bits of its value;");
        PlainCobol x = new PlainCobol(1);
        for (int i = 0; i < VALUES.length; i++) {
            act(x, 2, i / 3 * 3 == i ? 0 : i, VALUES[i]);
        }
        for (int i = 0; i < VALUES.length; i++) {
            due.is("number", x.segment(i, 0), i + 1);
            due.is("above", x.segment(i, 1), i % 3 == 0 ? 0 : i);
            due.is("how many are above", x.segment(i, 2), i % 3);
            due.is("lowest of " + VALUES[i], x.segment(i, 3), (int) VALUES[i]);
            due.is("highest of " + VALUES[i], x.segment(i, 4), (int) (VALUES[i] >> 32));
        }
        PlainCobol y = new PlainCobol(1);
        for (int i = 0; i < 100; i++) {
            act(y, 2, i, i);
        }
        due.is("the hundredth is 99 deep", y.segment(99, 2), 99);
        due.is("the first has none above", y.segment(0, 1), 0);
        due.is("the first has none above", y.segment(0, 2), 0);
    }

    private static void noSegment() {
        due.sentence("Promise 11", "NONE without one, and for others.");
        PlainCobol x = new PlainCobol(1);
        due.is("none yet", x.segment(0, 0), NONE);
        act(x, 2, 0, 7);
        act(x, 2, 0, 8);
        int[] others = {-1, 5, 6, 99, 100, 101, LOW, HIGH};
        for (int other : others) {
            due.is("segment(" + other + ", 0)", x.segment(other, 0), NONE);
            due.is("segment(0, " + other + ")", x.segment(0, other), NONE);
        }
        due.is("behind the last", x.segment(2, 0), NONE);
        act(x, 3, 1, 0);
        due.is("behind the last", x.segment(1, 0), NONE);
        act(x, 3, 2, 0);
        for (int what = 0; what <= 4; what++) {
            due.is("all are gone", x.segment(0, what), NONE);
        }
        due.is("not refused", x.refused(), 0);
        PlainCobol y = new PlainCobol(1);
        for (int i = 0; i < 100; i++) {
            act(y, 2, 0, i);
        }
        due.is("the hundredth", y.segment(99, 0), 100);
        due.is("behind it", y.segment(100, 0), NONE);
    }

    private static void signs() {
        due.sentence("Promise 12", "The sign at a place of the screen; 32 where none came; NONE outside.");
        PlainCobol x = new PlainCobol(1);
        int[][] corners = {{1, 1}, {1, 80}, {24, 1}, {24, 80}, {2, 1}, {23, 80}};
        for (int i = 0; i < corners.length; i++) {
            due.is("none came", x.screen(corners[i][0], corners[i][1]), 32);
            act(x, 4, corners[i][0] * 100 + corners[i][1], 126 - i);
        }
        for (int i = 0; i < corners.length; i++) {
            due.is("its sign", x.screen(corners[i][0], corners[i][1]), 126 - i);
        }
        due.is("beside it", x.screen(1, 2), 32);
        due.is("beside it", x.screen(24, 79), 32);
        int[] rows = {0, 25, -1, 100, LOW, HIGH, 42949673};
        int[] columns = {0, 81, -1, 100, 101, LOW, HIGH};
        for (int row : rows) {
            due.is("screen(" + row + ", 1)", x.screen(row, 1), NONE);
            due.is("screen(" + row + ", 80)", x.screen(row, 80), NONE);
        }
        for (int column : columns) {
            due.is("screen(1, " + column + ")", x.screen(1, column), NONE);
            due.is("screen(24, " + column + ")", x.screen(24, column), NONE);
        }
        due.is("not refused", x.refused(), 0);
    }

    private static Field field(Object of, String name) throws ReflectiveOperationException {
        Field field = of.getClass().getDeclaredField(name);
        field.setAccessible(true);
        return field;
    }

    private static Object part(Object of, String name) throws ReflectiveOperationException {
        return field(of, name).get(of);
    }

    /** Two records, three segments, two signs: seven rows. */
    private static PlainCobol seven() {
        PlainCobol x = new PlainCobol(1);
        x.act(1, 0, 5, 50);
        x.act(1, 0, 3000006, 60);
        x.act(1, 2, 0, 10);
        x.act(1, 2, 1, 20);
        x.act(1, 2, 0, 30);
        x.act(1, 4, 101, 65);
        x.act(1, 4, 2480, 32);
        due.is("commit(1)", x.commit(1), 7);
        due.is("second", x.second(), 7);
        return x;
    }

    private static void knowsTheRowAlone() throws ReflectiveOperationException {
        due.sentence("Terms", "THE SECOND WRITING knows the row of acts alone:");
        PlainCobol x = seven();
        Object row = part(x, "row");
        for (int acts = 7; acts >= 0; acts--) {
            field(row, "size").setInt(row, acts);
            due.is("with " + acts + " acts in the row", x.second(), acts);
        }
        PlainCobol y = seven();
        y.act(1, 0, 9, 9);
        due.is("what waits in a unit is not known", y.second(), 7);
    }

    private static void latestActOfARecord() {
        due.sentence("Terms", "of each record it takes the latest act of it,");
        PlainCobol x = new PlainCobol(1);
        int[] kinds = {1, 0, 0, 1, 1, 0, 1};
        int[] rows = {0, 1, 1, 0, 0, 1, 0};
        for (int i = 0; i < kinds.length; i++) {
            act(x, kinds[i], 1000000, i);
            due.is("second behind act " + i, x.second(), rows[i]);
        }
        act(x, 0, 1000001, 1);
        act(x, 0, 999999, 1);
        act(x, 0, 1000001, 2);
        act(x, 1, 1000000, 2);
        due.is("each by itself", x.second(), 2);
        PlainCobol y = Made.filled(1000);
        due.is("1000 records", y.second(), 1000);
    }

    private static void goesThroughAllActs() {
        due.sentence("Terms", "segments it lays out by going through all acts,");
        PlainCobol x = new PlainCobol(1);
        int[] kinds = {3, 2, 2, 2, 2, 2, 3, 3, 2, 2, 3, 3};
        long[] as = {1, 1, 0, 1, 2, 1, 2, 3, 2, 1, 4, 1};
        int[] rows = {0, 0, 1, 2, 3, 4, 2, 2, 2, 3, 2, 0};
        for (int i = 0; i < kinds.length; i++) {
            act(x, kinds[i], as[i], i);
            due.is("second behind act " + i, x.second(), rows[i]);
            due.is("segments behind act " + i, x.count(4), rows[i]);
        }
        PlainCobol y = new PlainCobol(1);
        for (int i = 0; i < 101; i++) {
            act(y, 2, i % 7 == 0 ? 0 : i / 2, i);
        }
        due.is("100 segments, and no 101st", y.second(), 100);
    }

    private static void latestSign() {
        due.sentence("Terms", "of each place it takes the latest sign.");
        PlainCobol x = new PlainCobol(1);
        int[] signs = {65, 66, 32, 126, 126};
        for (int sign : signs) {
            act(x, 4, 1201, sign);
            due.is("one place", x.second(), 1);
            due.is("its sign", x.screen(12, 1), sign);
        }
        act(x, 4, 1180, 65);
        act(x, 4, 1201, 66);
        act(x, 4, 1202, 67);
        due.is("each by itself", x.second(), 3);
        for (int row = 1; row <= 24; row += 6) {
            eachPlaceTwice(row);
        }
    }

    /** Six rows of the screen, 480 places, are displayed twice. */
    private static void eachPlaceTwice(int row) {
        PlainCobol x = new PlainCobol(100);
        x.cell(18, 123456789012345678L);
        x.cell(1, 1);
        int root = x.node(0, 0, 0);
        for (int i = 0; i < 30; i++) {
            int show = x.node(9, 1, 100 * (row + i / 5) + 18 * (i % 5) + 1);
            root = x.node(6, root, show);
        }
        x.node(3, 2, 1);
        due.is("480 signs", x.run(root), 1);
        due.is("each place has one", x.second(), 480);
        due.is("another value", x.run(root + 1), 1);
        due.is("480 signs", x.run(root), 1);
        due.is("acts", x.count(2), 960);
        due.is("each place has one", x.second(), 480);
    }

    private static void rowsAsTheyStand() throws ReflectiveOperationException {
        due.sentence("Promise 10", "How many of the rows (records of all files, segments in their order, "
            + "places with a sign, a blank too) that the second writing has are as they stand on the plain side, "
            + "each at its place.");
        due.is("a new object", new PlainCobol(1).second(), 0);
        PlainCobol x = seven();
        Object files = part(x, "files");
        int[] keys = (int[]) part(files, "keys");
        long[] values = (long[]) part(files, "values");
        values[0]++;
        due.is("a value that differs", x.second(), 6);
        values[0] += (1L << 32) - 1;
        due.is("a value that differs in its highest bits", x.second(), 6);
        values[0] -= 1L << 32;
        keys[1]--;
        due.is("a key that differs", x.second(), 6);
        keys[1]++;
        field(files, "held").setInt(files, 1);
        due.is("a record that is missing", x.second(), 6);
        field(files, "held").setInt(files, 2);
        due.is("all as they stand", x.second(), 7);
        PlainCobol y = seven();
        Object segments = part(y, "segments");
        String[] parts = {"order", "above", "depths"};
        int[] kept = {6, 6, 6};
        for (int i = 0; i < parts.length; i++) {
            int[] numbers = (int[]) part(segments, parts[i]);
            numbers[1]++;
            due.is("a segment's " + parts[i] + " that differs", y.second(), kept[i]);
            numbers[1]--;
        }
        ((long[]) part(segments, "values"))[1]++;
        due.is("a segment's value that differs", y.second(), 6);
        field(segments, "there").setInt(segments, 2);
        due.is("a segment that is missing", y.second(), 5);
        PlainCobol z = seven();
        byte[] signs = (byte[]) part(part(z, "signs"), "signs");
        signs[0] = 66;
        due.is("a sign that differs", z.second(), 6);
        signs[24 * 80 - 1] = 0;
        due.is("a blank that is missing", z.second(), 5);
        signs[5] = 65;
        due.is("one that the second writing has not", z.second(), 5);
    }

    private static void refused() {
        due.sentence("Promise 14", "How many calls were refused.");
        PlainCobol x = new PlainCobol(1);
        due.is("none yet", x.refused(), 0);
        for (int i = 1; i <= 500; i += 2) {
            x.cell(0, 0);
            due.is("refused", x.refused(), i / 2 + 1);
        }
    }

    private static void isCounted(PlainCobol x, int... want) {
        for (int what = 0; what < want.length; what++) {
            due.is("count(" + what + ")", x.count(what), want[what]);
        }
    }

    private static void counts() {
        due.sentence("Promise 15", "what = 0 cells, 1 nodes, 2 acts in the row, 3 records, "
            + "4 segments that are there,");
        PlainCobol x = new PlainCobol(9);
        isCounted(x, 0, 0, 0, 0, 0);
        x.cell(1, 1);
        x.cell(19, 1);
        isCounted(x, 1, 0, 0, 0, 0);
        x.node(0, 0, 0);
        x.node(13, 0, 0);
        isCounted(x, 1, 1, 0, 0, 0);
        x.act(1, 0, 5, 5);
        x.act(1, 0, 3999999, 5);
        x.act(1, 2, 0, 5);
        x.act(1, 2, 1, 5);
        isCounted(x, 1, 1, 0, 0, 0);
        x.commit(1);
        isCounted(x, 1, 1, 4, 2, 2);
        act(x, 0, 5, 6);
        isCounted(x, 1, 1, 5, 2, 2);
        act(x, 1, 5, 6);
        act(x, 1, 5, 6);
        isCounted(x, 1, 1, 7, 1, 2);
        act(x, 3, 1, 6);
        act(x, 3, 1, 6);
        isCounted(x, 1, 1, 9, 1, 0);
        x.run(1);
        isCounted(x, 1, 1, 9, 1, 0);
        isCounted(Made.filled(1000), 3, 4, 1000, 1000, 0);
    }

    private static void noCount() {
        due.sentence("Promise 15", "NONE for others.");
        PlainCobol x = Made.filled(3);
        int[] others = {-1, 6, 7, 100, LOW, HIGH};
        for (int what : others) {
            due.is("count(" + what + ")", x.count(what), NONE);
        }
        due.is("not refused", x.refused(), 0);
    }
}
