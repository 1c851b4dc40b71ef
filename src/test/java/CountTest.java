/** Promises 14 and 15: refused, count. */
public final class CountTest {
    private static final Due due = new Due();

    public static void main(String[] args) {
        refusals();
        counts();
        noCount();
        due.finish();
    }

    private static void refusals() {
        PlainCobol x = new PlainCobol(1);
        x.cell(0, 0);
        due.is("cell", x.refused(), 1);
        x.node(13, 0, 0);
        due.is("node", x.refused(), 2);
        x.run(1);
        due.is("run", x.refused(), 3);
        x.act(0, 0, 0, 0);
        due.is("act", x.refused(), 4);
        x.commit(0);
        due.is("commit", x.refused(), 5);
        x.number(0);
        x.record(9, 9, 9);
        x.segment(9, 9);
        x.screen(0, 0);
        x.real(0);
        x.count(9);
        due.at(x, 0, 0, -1);
        due.is("nothing else is refused", x.refused(), 5);
        x.node(11, 0, 0);
        x.node(6, 1, 1);
        due.is("raised", x.run(1), 2);
        due.is("not tried", x.run(2), 0);
        due.is("neither is refused", x.refused(), 5);
    }

    private static void counts() {
        PlainCobol x = new PlainCobol(100);
        int[] want = new int[6];
        x.cell(3, 1);
        x.cell(3, 2);
        want[0] = 2;
        all(x, want);
        x.node(0, 0, 0);
        x.node(6, 1, 1);
        x.node(11, 0, 0);
        want[1] = 3;
        all(x, want);
        x.act(1, 0, 5, 5);
        x.act(1, 0, 5, 6);
        x.act(1, 2, 0, 5);
        x.act(1, 2, 0, 5);
        x.act(1, 3, 1, 5);
        all(x, want);
        x.commit(1);
        want[2] = 5;
        want[3] = 1;
        want[4] = 1;
        all(x, want);
        x.run(2);
        want[5] = 3;
        all(x, want);
        x.run(3);
        want[5] = 1;
        all(x, want);
        x.run(99);
        all(x, want);
    }

    private static void all(PlainCobol x, int[] want) {
        for (int what = 0; what < want.length; what++) {
            due.is("count(" + what + ")", x.count(what), want[what]);
        }
    }

    private static void noCount() {
        PlainCobol x = new PlainCobol(1);
        int[] wrong = {-1, 6, 7, Integer.MIN_VALUE, Integer.MAX_VALUE};
        for (int what : wrong) {
            due.is("count(" + what + ")", x.count(what), PlainCobol.NONE);
        }
    }
}
