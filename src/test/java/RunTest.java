/** Promises 1 and 4 with the steps of 15: a new object, run. */
public final class RunTest {
    private static final Due due = new Due();

    public static void main(String[] args) {
        newObject();
        stepsAreBounded();
        noNode();
        moving();
        adding();
        multiplying();
        dividing();
        ifs();
        looping();
        raisingKeepsCells();
        notTriedBringsBack();
        storing();
        displaying();
        walkedActsAreBounded();
        rowIsFull();
        risingKeys();
        deepNesting();
        due.finish();
    }

    private static void newObject() {
        PlainCobol x = new PlainCobol(7);
        for (int what = 0; what <= 5; what++) {
            due.is("count(" + what + ")", x.count(what), 0);
        }
        due.is("refused", x.refused(), 0);
        due.is("second", x.second(), 0);
        due.is("number", x.number(1), 0);
        due.is("record", x.record(0, 0, 0), PlainCobol.NONE);
        due.is("segment", x.segment(0, 0), PlainCobol.NONE);
        due.is("screen", x.screen(1, 1), 32);
        due.is("NONE", PlainCobol.NONE, -1);
    }

    /** A row of rows that has 2 * rows + 1 steps. */
    private static int rows(PlainCobol x, int rows) {
        int root = x.node(0, 0, 0);
        for (int i = 0; i < rows; i++) {
            root = x.node(6, 1, root);
        }
        return root;
    }

    private static void stepsAreBounded() {
        long[] given = {Long.MIN_VALUE, -1, 0, 1, 2, 3, 4, 5, 4999, 5000, 5001, Long.MAX_VALUE, 1L << 32};
        int[] kept = {1, 1, 1, 1, 2, 3, 4, 5, 4999, 5000, 5000, 5000, 5000};
        for (int i = 0; i < given.length; i++) {
            PlainCobol x = new PlainCobol(given[i]);
            x.cell(1, 1);
            x.node(0, 0, 0);
            x.node(8, 1, 1);
            due.is("endless loop", x.run(2), 0);
            due.is("steps of " + given[i], x.count(5), kept[i]);
            due.is("node alone", x.run(1), 1);
            due.is("one step", x.count(5), 1);
        }
        PlainCobol x = new PlainCobol(5);
        due.is("five steps of five", x.run(rows(x, 2)), 1);
        due.is("steps", x.count(5), 5);
        PlainCobol y = new PlainCobol(4);
        due.is("five steps of four", y.run(rows(y, 2)), 0);
        due.is("steps", y.count(5), 4);
    }

    private static void noNode() {
        PlainCobol x = new PlainCobol(9);
        x.cell(1, 1);
        due.is("run(1) without nodes", x.run(1), -2);
        x.node(11, 0, 0);
        due.is("it raises", x.run(1), 2);
        int[] wrong = {0, -1, 2, 200, 201, Integer.MIN_VALUE, Integer.MAX_VALUE};
        for (int node : wrong) {
            due.is("run(" + node + ")", x.run(node), -2);
        }
        due.is("refused", x.refused(), wrong.length + 1);
        due.is("steps stay", x.count(5), 1);
    }

    private static void moving() {
        PlainCobol x = new PlainCobol(9);
        x.cell(5, -12300);
        x.cell(2, 99);
        x.cell(3, 0);
        x.cell(8, 1);
        for (int to = 2; to <= 4; to++) {
            x.node(1, 1, to);
            due.is("move", x.run(to - 1), 1);
        }
        due.is("-12300 in two digits", x.number(2), 0);
        due.is("-12300 in three digits", x.number(3), -300);
        due.is("-12300 in eight digits", x.number(4), -12300);
        due.is("first cell", x.number(1), -12300);
        due.at(x, 4, 7, 112);
        due.at(x, 4, 0, 48);
    }

    private static void check(int kind, long a, int size, long b, int outcome, long value) {
        PlainCobol x = new PlainCobol(9);
        x.cell(18, a);
        x.cell(size, b);
        x.node(kind, 1, 2);
        String what = "kind " + kind + " of " + a + ", " + b;
        due.is(what, x.run(1), outcome);
        due.is("B after " + what, x.number(2), value);
        due.is("A after " + what, x.number(1), a);
        due.is("steps", x.count(5), 1);
    }

    private static void adding() {
        long most = 999999999999999999L;
        check(2, 5, 2, 94, 1, 99);
        check(2, 6, 2, 94, 2, 94);
        check(2, -6, 2, -94, 2, -94);
        check(2, -5, 2, -94, 1, -99);
        check(2, most, 18, most, 2, most);
        check(2, -most, 18, most, 1, 0);
        check(2, 1, 18, most, 2, most);
        check(3, 5, 2, 4, 1, -1);
        check(3, -6, 2, 94, 2, 94);
        check(3, 99, 2, -1, 2, -1);
        check(3, most, 18, -most, 2, -most);
        check(3, most, 18, most, 1, 0);
        PlainCobol x = new PlainCobol(9);
        x.cell(2, 33);
        x.node(2, 1, 1);
        x.node(3, 1, 1);
        due.is("twice itself", x.run(1), 1);
        due.is("66", x.number(1), 66);
        due.is("132 is too long", x.run(1), 2);
        due.is("minus itself", x.run(2), 1);
        due.is("0", x.number(1), 0);
    }

    private static void multiplying() {
        long most = 999999999999999999L;
        check(4, 33, 2, 3, 1, 99);
        check(4, 34, 2, 3, 2, 3);
        check(4, -33, 2, 3, 1, -99);
        check(4, 0, 1, 9, 1, 0);
        check(4, most, 18, 0, 1, 0);
        check(4, most, 18, most, 2, most);
        check(4, -most, 18, -1, 1, most);
        check(4, 1000000000, 18, 1000000000, 2, 1000000000);
        check(4, 1000000000, 18, 999999999, 1, 999999999000000000L);
        check(4, 4294967296L, 18, 4294967296L, 2, 4294967296L);
        check(4, 8589934592L, 18, -4294967296L, 2, -4294967296L);
        check(4, 10, 18, 99999999999999999L, 1, 999999999999999990L);
        check(4, 10, 17, 99999999999999999L, 2, 99999999999999999L);
    }

    private static void dividing() {
        check(5, 7, 3, 100, 1, 14);
        check(5, -7, 3, 100, 1, -14);
        check(5, 7, 3, -100, 1, -14);
        check(5, -7, 3, -100, 1, 14);
        check(5, 101, 3, -100, 1, 0);
        check(5, 0, 3, 100, 2, 100);
        check(5, 0, 3, 0, 2, 0);
        check(5, 5, 3, 0, 1, 0);
    }

    private static void ifs() {
        long[] values = {-3, 0, 3};
        int[] notZero = {2, 1, 2};
        int[] below = {2, 1, 1};
        for (int i = 0; i < values.length; i++) {
            PlainCobol x = new PlainCobol(9);
            x.cell(2, values[i]);
            x.node(11, 0, 0);
            x.node(7, 1, 1);
            x.node(12, 1, 1);
            due.is("if not 0: " + values[i], x.run(2), notZero[i]);
            due.is("steps", x.count(5), notZero[i]);
            due.is("if below 0: " + values[i], x.run(3), below[i]);
            due.is("steps", x.count(5), below[i]);
        }
    }

    private static PlainCobol countdown(long steps) {
        PlainCobol x = new PlainCobol(steps);
        x.cell(2, 3);
        x.cell(1, 1);
        x.node(3, 2, 1);
        x.node(8, 1, 1);
        return x;
    }

    private static void looping() {
        PlainCobol x = countdown(7);
        due.is("three rounds in seven steps", x.run(2), 1);
        due.is("steps", x.count(5), 7);
        due.is("counted down", x.number(1), 0);
        due.is("no round", x.run(2), 1);
        due.is("one step", x.count(5), 1);
        PlainCobol y = countdown(6);
        due.is("three rounds in six steps", y.run(2), 0);
        due.is("steps", y.count(5), 6);
        due.is("as before", y.number(1), 3);
        due.is("a run not tried is not refused", y.refused(), 0);
    }

    private static void raisingKeepsCells() {
        PlainCobol x = new PlainCobol(20);
        x.cell(2, 5);
        x.cell(2, 90);
        x.node(2, 1, 2);
        x.node(10, 1, 2);
        x.node(9, 1, 101);
        x.node(6, 2, 3);
        x.node(6, 4, 1);
        x.node(6, 5, 1);
        due.is("95, then 100 raises", x.run(6), 2);
        due.is("95 stays", x.number(2), 95);
        due.is("steps with the one that raised", x.count(5), 7);
        due.is("no acts", x.count(2), 0);
        due.is("no record", x.count(3), 0);
        due.is("no sign", x.screen(1, 1), 32);
        due.is("not refused", x.refused(), 0);
        due.is("the acts went", x.run(3), 1);
        due.is("two signs alone", x.count(2), 2);
    }

    private static void notTriedBringsBack() {
        PlainCobol x = new PlainCobol(6);
        x.cell(2, 5);
        x.cell(2, 20);
        x.node(2, 1, 2);
        x.node(10, 1, 2);
        x.node(6, 1, 2);
        x.node(6, 3, 3);
        due.is("seven steps of six", x.run(4), 0);
        due.is("20 again", x.number(2), 20);
        due.is("steps", x.count(5), 6);
        due.is("no acts", x.count(2), 0);
        due.is("three steps", x.run(3), 1);
        due.is("25", x.number(2), 25);
        due.is("one act", x.count(2), 1);
        due.is("value stored", x.record(0, 0, 1), 25);
        PlainCobol y = new PlainCobol(2);
        y.node(11, 0, 0);
        y.node(6, 1, 1);
        due.is("raises within its steps", y.run(2), 2);
        due.is("steps", y.count(5), 2);
    }

    private static void storing() {
        long[] keys = {0, 999999, 1000000, -1};
        int[] outcomes = {1, 1, 2, 2};
        for (int i = 0; i < keys.length; i++) {
            PlainCobol x = new PlainCobol(9);
            x.cell(7, keys[i]);
            x.cell(18, -5000000000L);
            x.node(10, 1, 2);
            due.is("store at " + keys[i], x.run(1), outcomes[i]);
            due.is("key", x.record(0, 0, 0), outcomes[i] == 1 ? keys[i] : PlainCobol.NONE);
            due.is("lowest", x.record(0, 0, 1), outcomes[i] == 1 ? (int) -5000000000L : PlainCobol.NONE);
            due.is("highest", x.record(0, 0, 2), outcomes[i] == 1 ? -2 : PlainCobol.NONE);
            due.is("other file", x.record(1, 0, 0), PlainCobol.NONE);
            due.is("acts", x.count(2), outcomes[i] == 1 ? 1 : 0);
        }
    }

    private static void shows(PlainCobol x, int row, int column, String text) {
        for (int i = 0; i < text.length(); i++) {
            due.is("screen(" + row + ", " + (column + i) + ")", x.screen(row, column + i), text.charAt(i));
        }
    }

    private static void displaying() {
        PlainCobol x = new PlainCobol(9);
        x.cell(5, -42);
        x.cell(4, 7);
        x.node(9, 1, 210);
        x.node(9, 2, 2478);
        x.node(9, 1, 380);
        x.node(9, 2, 480);
        due.is("display", x.run(1), 1);
        shows(x, 2, 9, " -00042 ");
        due.is("six acts", x.count(2), 6);
        due.is("display at the end", x.run(2), 1);
        shows(x, 24, 77, " 000");
        due.is("three acts more", x.count(2), 9);
        due.is("a minus alone", x.run(3), 1);
        shows(x, 3, 79, " -");
        shows(x, 4, 1, " ");
        due.is("one act more", x.count(2), 10);
        due.is("a digit alone", x.run(4), 1);
        shows(x, 4, 80, "0");
        due.is("second", x.second(), 11);
        x.cell(3, 0);
        x.node(9, 3, 501);
        due.is("display of 0", x.run(5), 1);
        shows(x, 5, 1, "000 ");
    }

    private static PlainCobol filler(int rounds) {
        PlainCobol x = new PlainCobol(5000);
        x.cell(4, rounds);
        x.cell(1, 1);
        x.cell(10, -7);
        x.node(3, 2, 1);
        x.node(10, 1, 3);
        x.node(6, 1, 2);
        x.node(8, 1, 3);
        return x;
    }

    private static void walkedActsAreBounded() {
        PlainCobol x = filler(1000);
        due.is("1000 acts", x.run(4), 1);
        due.is("acts", x.count(2), 1000);
        due.is("records", x.count(3), 1000);
        due.is("second", x.second(), 1000);
        due.is("steps", x.count(5), 4001);
        PlainCobol y = filler(1100);
        due.is("1001 acts", y.run(4), 2);
        due.is("steps until then", y.count(5), 4005);
        due.is("99 rounds are left", y.number(1), 99);
        due.is("acts", y.count(2), 0);
        PlainCobol z = filler(995);
        z.node(9, 3, 101);
        z.node(6, 4, 5);
        due.is("995 and eleven signs", z.run(6), 2);
        due.is("cells stay", z.number(1), 0);
        due.is("acts", z.count(2), 0);
        z.node(9, 3, 176);
        z.node(6, 4, 7);
        z.node(1, 2, 1);
        due.is("steps", z.count(5), 3983);
        PlainCobol w = filler(995);
        w.node(9, 3, 176);
        w.node(6, 4, 5);
        due.is("995 and five signs, the others lost", w.run(6), 1);
        due.is("acts", w.count(2), 1000);
        due.is("second", w.second(), 1000);
    }

    private static void rowIsFull() {
        PlainCobol x = filler(998);
        due.is("998 acts", x.run(4), 1);
        x.cell(2, 3);
        x.node(2, 2, 4);
        x.node(9, 4, 101);
        x.node(10, 4, 4);
        x.node(6, 5, 6);
        x.node(6, 7, 8);
        due.is("three acts more", x.run(9), 2);
        due.is("the cell stays as it is then", x.number(4), 4);
        due.is("steps", x.count(5), 5);
        due.is("acts", x.count(2), 998);
        due.is("no sign", x.screen(1, 1), 32);
        due.is("two acts more", x.run(8), 1);
        due.is("acts", x.count(2), 1000);
        due.is("none", x.run(5), 1);
        due.is("one act more", x.run(7), 2);
        due.is("not refused", x.refused(), 0);
        due.is("second", x.second(), 1000);
    }

    private static void risingKeys() {
        PlainCobol x = filler(495);
        x.cell(6, 0);
        x.cell(4, 495);
        x.node(2, 2, 4);
        x.node(10, 4, 1);
        x.node(6, 5, 6);
        x.node(6, 1, 7);
        x.node(8, 1, 8);
        x.node(1, 5, 1);
        due.is("495 acts", x.run(9), 1);
        due.is("once more", x.run(10), 1);
        due.is("495 acts", x.run(9), 1);
        for (int i = 0; i < 990; i += 109) {
            due.is("key", x.record(0, i, 0), i + 1);
            due.is("value", x.record(0, i, 1), 494 - i % 495);
        }
        x.act(1, 1, 990, 0);
        x.act(1, 1, 991, 0);
        x.act(1, 1, 800, 0);
        x.act(1, 0, 2000000, 5);
        due.is("commit", x.commit(1), 4);
        due.is("behind the gap", x.record(0, 799, 0), 801);
        due.is("the last", x.record(0, 987, 0), 989);
        due.is("gone", x.record(0, 988, 0), PlainCobol.NONE);
        due.is("in another file", x.record(2, 0, 1), 5);
        due.is("records", x.count(3), 989);
        due.is("second", x.second(), 989);
    }

    private static void deepNesting() {
        int[] kinds = {6, 7, 8};
        for (int kind : kinds) {
            PlainCobol x = new PlainCobol(5000);
            x.cell(1, 1);
            x.cell(1, 0);
            x.node(1, 2, 1);
            for (int node = 2; node <= 200; node++) {
                x.node(kind, 1, node - 1);
            }
            due.is("two hundred deep, kind " + kind, x.run(200), 1);
            due.is("done", x.number(1), 0);
            due.is("steps", x.count(5), kind == 8 ? 399 : kind == 7 ? 200 : 399);
        }
    }
}
