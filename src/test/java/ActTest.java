/** Promises 7, 8 and 9: record, act, commit. */
public final class ActTest {
    private static final Due due = new Due();

    public static void main(String[] args) {
        unitsAndKinds();
        numbersOutside();
        fiftyEach();
        nothingBeforeCommit();
        committing();
        records();
        noRecord();
        dropping();
        rowIsFull();
        due.finish();
    }

    private static void unitsAndKinds() {
        PlainCobol x = new PlainCobol(1);
        int[] wrong = {0, 9, -1, Integer.MIN_VALUE, Integer.MAX_VALUE};
        for (int unit : wrong) {
            due.is("act of unit " + unit, x.act(unit, 0, 1, 1), -2);
            due.is("unit ahead of numbers", x.act(unit, 0, -1, 1), -2);
            due.is("commit of unit " + unit, x.commit(unit), -2);
        }
        int[] noKind = {-1, 5, 6, Integer.MIN_VALUE, Integer.MAX_VALUE};
        for (int kind : noKind) {
            due.is("act of kind " + kind, x.act(1, kind, 1, 1), -2);
        }
        due.is("refused", x.refused(), wrong.length * 3 + noKind.length);
        for (int unit = 1; unit <= 8; unit++) {
            due.is("commit of an empty unit", x.commit(unit), 0);
            due.is("act of unit " + unit, x.act(unit, 0, unit, 1), 1);
        }
    }

    private static void outside(PlainCobol x, int kind, long b, long... wrong) {
        for (long a : wrong) {
            due.is("act of kind " + kind + " with " + a + ", " + b, x.act(1, kind, a, b), -4);
        }
    }

    private static void inside(int kind, long b, long... right) {
        PlainCobol x = new PlainCobol(1);
        for (int i = 0; i < right.length; i++) {
            due.is("act of kind " + kind + " with " + right[i] + ", " + b,
                x.act(1, kind, right[i], b), i + 1);
        }
    }

    private static void numbersOutside() {
        PlainCobol x = new PlainCobol(1);
        long low = Long.MIN_VALUE;
        long high = Long.MAX_VALUE;
        outside(x, 0, 1, -1, 4000000, low, high, 1L << 32);
        outside(x, 1, 1, -1, 4000000, low, high, 1L << 32);
        outside(x, 2, 1, -1, 101, low, high, 1L << 32);
        outside(x, 3, 1, 0, -1, 101, low, high, (1L << 32) + 1);
        outside(x, 4, 65, 0, 100, 181, 200, 2481, 2501, -101, low, high, (1L << 32) + 101);
        outside(x, 4, 31, 101);
        outside(x, 4, 127, 101);
        outside(x, 4, (1L << 32) + 65, 101);
        outside(x, 4, -65, 101);
        due.is("refused", x.refused(), 35);
        due.is("nothing added", x.commit(1), 0);
        inside(0, low, 0, 3999999, 1000000);
        inside(0, high, 0, 3999999);
        inside(1, low, 0, 3999999);
        inside(2, high, 0, 1, 100);
        inside(3, high, 1, 100);
        inside(4, 32, 101, 180, 2401, 2480);
        inside(4, 126, 101, 180, 2401, 2480);
    }

    private static void fiftyEach() {
        PlainCobol x = new PlainCobol(1);
        for (int unit = 1; unit <= 2; unit++) {
            for (int i = 1; i <= 50; i++) {
                due.is("act " + i, x.act(unit, 0, i, unit), i);
            }
            due.is("51st act", x.act(unit, 0, 51, 1), PlainCobol.NONE);
            due.is("51st act outside", x.act(unit, 0, -1, 1), -4);
            due.is("51st act of no kind", x.act(unit, 5, 0, 1), -2);
        }
        due.is("refused", x.refused(), 6);
        due.is("commit", x.commit(2), 50);
        due.is("again", x.commit(2), 0);
        due.is("room again", x.act(2, 0, 51, 1), 1);
        due.is("still full", x.act(1, 0, 51, 1), PlainCobol.NONE);
    }

    private static void nothingBeforeCommit() {
        PlainCobol x = new PlainCobol(1);
        x.act(1, 0, 5, 1);
        x.act(1, 2, 0, 1);
        x.act(1, 4, 101, 65);
        for (int what = 0; what <= 5; what++) {
            due.is("count(" + what + ")", x.count(what), 0);
        }
        due.is("screen", x.screen(1, 1), 32);
        due.is("second", x.second(), 0);
        due.is("commit of another", x.commit(2), 0);
        due.is("records", x.count(3), 0);
        due.is("commit", x.commit(1), 3);
        due.is("acts", x.count(2), 3);
        due.is("second", x.second(), 3);
        due.is("screen", x.screen(1, 1), 65);
    }

    private static void committing() {
        PlainCobol x = new PlainCobol(1);
        x.act(1, 0, 5, 1);
        x.act(2, 0, 5, 2);
        x.act(1, 0, 5, 3);
        due.is("commit", x.commit(2), 1);
        due.is("of unit 2", x.record(0, 0, 1), 2);
        due.is("commit", x.commit(1), 2);
        due.is("the later one of unit 1", x.record(0, 0, 1), 3);
        due.is("one record", x.count(3), 1);
        due.is("acts", x.count(2), 3);
    }

    private static void records() {
        PlainCobol x = new PlainCobol(1);
        long[] keys = {3000000, 1999999, 7, 1000000, 0, 999999, 3999999, 1000001, 2500000};
        for (long key : keys) {
            x.act(4, 0, key, key * 10000000000L - 1);
        }
        x.commit(4);
        int[][] risen = {{0, 7, 999999}, {0, 1, 999999}, {500000}, {0, 999999}};
        for (int file = 0; file < 4; file++) {
            for (int i = 0; i < risen[file].length; i++) {
                long value = (file * 1000000L + risen[file][i]) * 10000000000L - 1;
                due.is("key", x.record(file, i, 0), risen[file][i]);
                due.is("lowest", x.record(file, i, 1), (int) value);
                due.is("highest", x.record(file, i, 2), (int) (value >> 32));
            }
            due.is("behind the last", x.record(file, risen[file].length, 0), PlainCobol.NONE);
        }
        due.is("records", x.count(3), keys.length);
    }

    private static void noRecord() {
        PlainCobol x = new PlainCobol(1);
        x.act(1, 0, 0, 5);
        x.act(1, 0, 3999999, 5);
        x.commit(1);
        int[] wrong = {-1, 4, 5, Integer.MIN_VALUE, Integer.MAX_VALUE, 4295, -4294};
        for (int w : wrong) {
            due.is("file " + w, x.record(w, 0, 0), PlainCobol.NONE);
            due.is("record " + w, x.record(0, w, 0), PlainCobol.NONE);
            due.is("what " + w, x.record(0, 0, w == 4 ? 3 : w), PlainCobol.NONE);
            due.is("record " + w, x.record(3, w, 0), PlainCobol.NONE);
        }
        due.is("not refused", x.refused(), 0);
    }

    private static void dropping() {
        PlainCobol x = new PlainCobol(1);
        for (int key = 0; key < 10; key++) {
            x.act(1, 0, key, key);
        }
        x.act(1, 1, 4, 99);
        x.act(1, 1, 4, 0);
        x.act(1, 1, 1000004, 0);
        x.act(1, 1, 9, 0);
        x.act(1, 1, 0, 0);
        x.act(1, 0, 9, 900);
        due.is("commit", x.commit(1), 16);
        due.is("acts done", x.count(2), 16);
        int[] left = {1, 2, 3, 5, 6, 7, 8, 9};
        due.is("records", x.count(3), left.length);
        for (int i = 0; i < left.length; i++) {
            due.is("key", x.record(0, i, 0), left[i]);
            due.is("value", x.record(0, i, 1), left[i] == 9 ? 900 : left[i]);
        }
        due.is("second", x.second(), left.length);
    }

    /** 20 * 50 acts are more calls than promised, so a walked loop brings most of them. */
    private static void rowIsFull() {
        PlainCobol x = new PlainCobol(5000);
        x.cell(4, 970);
        x.cell(1, 1);
        x.node(3, 2, 1);
        x.node(10, 1, 2);
        x.node(6, 2, 1);
        x.node(8, 1, 3);
        due.is("970 acts", x.run(4), 1);
        for (int i = 1; i <= 31; i++) {
            due.is("act", x.act(5, 0, 1000000 + i, i), i);
        }
        for (int i = 1; i <= 30; i++) {
            due.is("act", x.act(6, 4, 100 + i, 64 + i), i);
        }
        due.is("31 have no room", x.commit(5), PlainCobol.NONE);
        due.is("refused", x.refused(), 1);
        due.is("acts", x.count(2), 970);
        due.is("they stay", x.act(5, 1, 1000001, 0), 32);
        due.is("none of them is done", x.record(1, 0, 0), PlainCobol.NONE);
        due.is("30 have room", x.commit(6), 30);
        due.is("acts", x.count(2), 1000);
        due.is("an empty unit has room", x.commit(6), 0);
        due.is("one more has none", x.act(7, 0, 1, 1), 1);
        due.is("one more has none", x.commit(7), PlainCobol.NONE);
        due.is("refused", x.refused(), 2);
        due.is("second", x.second(), 1000);
    }
}
